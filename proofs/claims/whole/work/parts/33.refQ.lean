/-! the reference in numbers: its questions -/
def kc (M : Mm) (v : Int32) : Mm := k_up M 4 3 v
theorem kc_def (M : Mm) (v : Int32) : k_up M 4 3 v = kc M v := rfl
theorem kc_43 (M : Mm) (v : Int32) : (kc M v).1 4 3 = v := by simp [kc, k_up, upd]
theorem kc_42 (M : Mm) (v : Int32) : (kc M v).1 4 2 = M.1 4 2 := by simp [kc, k_up, upd]
theorem kc_1 (M : Mm) (v : Int32) : (kc M v).1 2 = M.1 2 := rfl
theorem kc_L (M : Mm) (v : Int32) : (kc M v).2 = M.2 := rfl
theorem z_00 : ((0 : Int32) = 0) = True := by simp
theorem z_10 : ((1 : Int32) = 0) = False := by decide
theorem z_20 : ((2 : Int32) = 0) = False := by decide
theorem z_30 : ((3 : Int32) = 0) = False := by decide
/-- an answer after the code -/
def qG (cd : Int32) (g : Bool) (v : Int32) (M : Mm) : Option Rs := if cd = 0 then (if g = true then some (.inl (some (.int v), kc M 0)) else none) else some (.inl (some (.int 0), kc M cd))
theorem qG_0 {g : Bool} {v : Int32} {M : Mm} {r : Rs} (h : qG 0 g v M = some r) : g = true ∧ r = .inl (some (.int v), kc M 0) := by
  unfold qG at h
  rw [if_pos rfl] at h
  split at h
  · next hg => cases h; exact ⟨hg, rfl⟩
  · cases h
theorem qG_n {cd : Int32} (hc : ¬ cd = 0) {g : Bool} {v : Int32} {M : Mm} {r : Rs} (h : qG cd g v M = some r) : r = .inl (some (.int 0), kc M cd) := by
  unfold qG at h
  rw [if_neg hc] at h
  cases h
  rfl
theorem qG_1 {g : Bool} {v : Int32} {M : Mm} {r : Rs} (h : qG 1 g v M = some r) : r = .inl (some (.int 0), kc M 1) := qG_n (by decide) h
theorem qG_2 {g : Bool} {v : Int32} {M : Mm} {r : Rs} (h : qG 2 g v M = some r) : r = .inl (some (.int 0), kc M 2) := qG_n (by decide) h
theorem qG_3 {g : Bool} {v : Int32} {M : Mm} {r : Rs} (h : qG 3 g v M = some r) : r = .inl (some (.int 0), kc M 3) := qG_n (by decide) h
def fr_misses (a b : Int32) (M : Mm) : Option Rs := some (.inl (some (.int (if a = 0 then 1 else if b = 0 then 2 else 0)), M))
theorem pr_misses (ad : Nat → Nat) (x0 x1 : Int32) (M : Mm) (r : Rs) (h : fr_misses x0 x1 M = some r) : T_X4_misses_0 ad r [some (.int x0), some (.int x1)] [] M := by
  cases h
  simp only [T_X4_misses_17, T_X4_misses_0, tt_c, tt_lc, tt_il, tt_ll, tt_al, tt_is, tt_lsv, tt_as, tt_inc, tt_add, tt_sub, tt_mul, tt_and, tt_ladd, tt_lmul, tt_i2l, tt_lcmp, tt_dupr, tt_dup2, tt_eq0, tt_lt0, tt_le0, tt_ge0, tt_gt0, tt_eq2, tt_lt2, tt_ge2, tt_gt2, tt_le2, tt_gr, tt_gi, tt_pi, tt_gl, tt_pl, tt_ia, tt_st, tt_ir, tt_zr, tt_lr, tt_vr, tt_cv, tt_cs, tt_max, tt_min, tt_rem, tt_xor, tt_len, tt_cp, tt_thr, tt_xv, tt_xs, k_sv, k_cl, k_kz, List.getElem?_cons_zero, List.getElem?_cons_succ, List.drop_succ_cons, List.drop_zero, List.take_succ_cons, List.take_zero, List.reverse_cons, List.reverse_nil, List.nil_append, List.cons_append, List.length_cons, List.length_nil, Option.toList_some, Option.toList_none, Nat.reduceAdd, Nat.reduceLeDiff, true_and, and_true, sp_I, sp_II, sp_III, sp_J, sp_JI, sp_JJ, sp_R2, sp_R5I, sp_V]
  refine ⟨fun c1 => ?_, fun c1 => ⟨fun c2 => ?_, fun c2 => ?_⟩⟩ <;> simp [*]
def cdMS (m : Re) (x s : Int32) : Int32 := if bM x = true then 1 else if bS s = true then 1 else if jR m x = true then 0 else 2
def fr_time (M : Mm) : Option Rs := some (.inl (some (.int (M.1 2 2)), kc M 0))
theorem pr_time (ad : Nat → Nat) (M : Mm) (r : Rs) (h : fr_time M = some r) : T_X4_time_0 ad r [some (.ref (ad 6))] [] M := by
  cases h
  simp only [T_X4_time_0, tt_c, tt_lc, tt_il, tt_ll, tt_al, tt_is, tt_lsv, tt_as, tt_inc, tt_add, tt_sub, tt_mul, tt_and, tt_ladd, tt_lmul, tt_i2l, tt_lcmp, tt_dupr, tt_dup2, tt_eq0, tt_lt0, tt_le0, tt_ge0, tt_gt0, tt_eq2, tt_lt2, tt_ge2, tt_gt2, tt_le2, tt_gr, tt_gi, tt_pi, tt_gl, tt_pl, tt_ia, tt_st, tt_ir, tt_zr, tt_lr, tt_vr, tt_cv, tt_cs, tt_max, tt_min, tt_rem, tt_xor, tt_len, tt_cp, tt_thr, tt_xv, tt_xs, k_sv, k_cl, k_kz, List.getElem?_cons_zero, List.getElem?_cons_succ, List.drop_succ_cons, List.drop_zero, List.take_succ_cons, List.take_zero, List.reverse_cons, List.reverse_nil, List.nil_append, List.cons_append, List.length_cons, List.length_nil, Option.toList_some, Option.toList_none, Nat.reduceAdd, Nat.reduceLeDiff, true_and, and_true, sp_I, sp_II, sp_III, sp_J, sp_JI, sp_JJ, sp_R2, sp_R5I, sp_V, kc_def]
  exact ⟨vi_2, rfl⟩
def fr_parent (x s : Int32) (M : Mm) : Option Rs := qG (cdMS (M.1 2) x s) true (oR (M.1 2) x (8 + s)) M
theorem pr_parent (ad : Nat → Nat) (x0 x1 : Int32) (M : Mm) (r : Rs) (h : fr_parent x0 x1 M = some r) : T_X4_parent_0 ad r (sp_I fr_isJoined) (sp_I fr_isMember) (sp_I fr_isStripe) (sp_II fr_misses) (sp_II fr_of) [some (.ref (ad 6)), some (.int x0), some (.int x1), none] [] M := by
  unfold fr_parent cdMS at h
  cases hb : bM x0 <;> cases hs : bS x1 <;> cases hj : jR (M.1 2) x0 <;> simp only [hb, hs, hj, kc_43, kc_1, kc_42, kc_L, z_10, z_20, z_30, z_00, bI_t, bI_f, if_true, if_false, Bool.false_eq_true, Bool.true_eq_false, not_true_eq_false, not_false_eq_true, false_implies, true_implies, and_self, true_and, and_true, and_false, false_and, reduceCtorEq] at h <;>
    first | have h0 := (qG_0 h).2 | have h0 := qG_1 h | have h0 := qG_2 h
  all_goals
    subst h0
    simp only [T_X4_parent_65, T_X4_parent_39, T_X4_parent_38, T_X4_parent_19, T_X4_parent_18, T_X4_parent_0, tt_c, tt_lc, tt_il, tt_ll, tt_al, tt_is, tt_lsv, tt_as, tt_inc, tt_add, tt_sub, tt_mul, tt_and, tt_ladd, tt_lmul, tt_i2l, tt_lcmp, tt_dupr, tt_dup2, tt_eq0, tt_lt0, tt_le0, tt_ge0, tt_gt0, tt_eq2, tt_lt2, tt_ge2, tt_gt2, tt_le2, tt_gr, tt_gi, tt_pi, tt_gl, tt_pl, tt_ia, tt_st, tt_ir, tt_zr, tt_lr, tt_vr, tt_cv, tt_cs, tt_max, tt_min, tt_rem, tt_xor, tt_len, tt_cp, tt_thr, tt_xv, tt_xs, k_sv, k_cl, k_kz, List.getElem?_cons_zero, List.getElem?_cons_succ, List.drop_succ_cons, List.drop_zero, List.take_succ_cons, List.take_zero, List.reverse_cons, List.reverse_nil, List.nil_append, List.cons_append, List.length_cons, List.length_nil, Option.toList_some, Option.toList_none, Nat.reduceAdd, Nat.reduceLeDiff, true_and, and_true, sp_I, sp_II, sp_III, sp_J, sp_JI, sp_JJ, sp_R2, sp_R5I, sp_V, kc_43, kc_1, kc_42, kc_L, z_10, z_20, z_30, z_00, bI_t, bI_f, if_true, if_false, Bool.false_eq_true, Bool.true_eq_false, not_true_eq_false, not_false_eq_true, false_implies, true_implies, and_self, true_and, and_true, and_false, false_and, reduceCtorEq, fr_isJoined, fr_isMember, fr_isStripe, fr_misses, fr_of, hb, hs, hj, Bool.not_true, Bool.not_false, kc_def]
  simp only [bW_8 hs, if_true, tt_c, tt_lc, tt_il, tt_ll, tt_al, tt_is, tt_lsv, tt_as, tt_inc, tt_add, tt_sub, tt_mul, tt_and, tt_ladd, tt_lmul, tt_i2l, tt_lcmp, tt_dupr, tt_dup2, tt_eq0, tt_lt0, tt_le0, tt_ge0, tt_gt0, tt_eq2, tt_lt2, tt_ge2, tt_gt2, tt_le2, tt_gr, tt_gi, tt_pi, tt_gl, tt_pl, tt_ia, tt_st, tt_ir, tt_zr, tt_lr, tt_vr, tt_cv, tt_cs, tt_max, tt_min, tt_rem, tt_xor, tt_len, tt_cp, tt_thr, tt_xv, tt_xs, k_sv, k_cl, k_kz, List.getElem?_cons_zero, List.getElem?_cons_succ, List.drop_succ_cons, List.drop_zero, List.take_succ_cons, List.take_zero, List.reverse_cons, List.reverse_nil, List.nil_append, List.cons_append, List.length_cons, List.length_nil, Option.toList_some, Option.toList_none, Nat.reduceAdd, Nat.reduceLeDiff, true_and, and_true, sp_I, sp_II, sp_III, sp_J, sp_JI, sp_JJ, sp_R2, sp_R5I, sp_V]
def fr_depth (x s : Int32) (M : Mm) : Option Rs := qG (cdMS (M.1 2) x s) (okR (M.1 2) x s) (dR (M.1 2) x s) M
theorem pr_depth (ad : Nat → Nat) (x0 x1 : Int32) (M : Mm) (r : Rs) (h : fr_depth x0 x1 M = some r) : T_X4_depth_0 ad r (sp_II fr_depthOf) (sp_I fr_isJoined) (sp_I fr_isMember) (sp_I fr_isStripe) (sp_II fr_misses) [some (.ref (ad 6)), some (.int x0), some (.int x1), none] [] M := by
  unfold fr_depth cdMS at h
  cases hb : bM x0 <;> cases hs : bS x1 <;> cases hj : jR (M.1 2) x0 <;> simp only [hb, hs, hj, kc_43, kc_1, kc_42, kc_L, z_10, z_20, z_30, z_00, bI_t, bI_f, if_true, if_false, Bool.false_eq_true, Bool.true_eq_false, not_true_eq_false, not_false_eq_true, false_implies, true_implies, and_self, true_and, and_true, and_false, false_and, reduceCtorEq] at h <;>
    first | (have hg := (qG_0 h).1; have h0 := (qG_0 h).2) | have h0 := qG_1 h | have h0 := qG_2 h
  all_goals
    subst h0
    simp only [T_X4_depth_62, T_X4_depth_39, T_X4_depth_38, T_X4_depth_19, T_X4_depth_18, T_X4_depth_0, tt_c, tt_lc, tt_il, tt_ll, tt_al, tt_is, tt_lsv, tt_as, tt_inc, tt_add, tt_sub, tt_mul, tt_and, tt_ladd, tt_lmul, tt_i2l, tt_lcmp, tt_dupr, tt_dup2, tt_eq0, tt_lt0, tt_le0, tt_ge0, tt_gt0, tt_eq2, tt_lt2, tt_ge2, tt_gt2, tt_le2, tt_gr, tt_gi, tt_pi, tt_gl, tt_pl, tt_ia, tt_st, tt_ir, tt_zr, tt_lr, tt_vr, tt_cv, tt_cs, tt_max, tt_min, tt_rem, tt_xor, tt_len, tt_cp, tt_thr, tt_xv, tt_xs, k_sv, k_cl, k_kz, List.getElem?_cons_zero, List.getElem?_cons_succ, List.drop_succ_cons, List.drop_zero, List.take_succ_cons, List.take_zero, List.reverse_cons, List.reverse_nil, List.nil_append, List.cons_append, List.length_cons, List.length_nil, Option.toList_some, Option.toList_none, Nat.reduceAdd, Nat.reduceLeDiff, true_and, and_true, sp_I, sp_II, sp_III, sp_J, sp_JI, sp_JJ, sp_R2, sp_R5I, sp_V, kc_43, kc_1, kc_42, kc_L, z_10, z_20, z_30, z_00, bI_t, bI_f, if_true, if_false, Bool.false_eq_true, Bool.true_eq_false, not_true_eq_false, not_false_eq_true, false_implies, true_implies, and_self, true_and, and_true, and_false, false_and, reduceCtorEq, fr_isJoined, fr_isMember, fr_isStripe, fr_misses, fr_depthOf, hb, hs, hj, Bool.not_true, Bool.not_false, kc_def]
  simp only [hg, if_true, tt_c, tt_lc, tt_il, tt_ll, tt_al, tt_is, tt_lsv, tt_as, tt_inc, tt_add, tt_sub, tt_mul, tt_and, tt_ladd, tt_lmul, tt_i2l, tt_lcmp, tt_dupr, tt_dup2, tt_eq0, tt_lt0, tt_le0, tt_ge0, tt_gt0, tt_eq2, tt_lt2, tt_ge2, tt_gt2, tt_le2, tt_gr, tt_gi, tt_pi, tt_gl, tt_pl, tt_ia, tt_st, tt_ir, tt_zr, tt_lr, tt_vr, tt_cv, tt_cs, tt_max, tt_min, tt_rem, tt_xor, tt_len, tt_cp, tt_thr, tt_xv, tt_xs, k_sv, k_cl, k_kz, List.getElem?_cons_zero, List.getElem?_cons_succ, List.drop_succ_cons, List.drop_zero, List.take_succ_cons, List.take_zero, List.reverse_cons, List.reverse_nil, List.nil_append, List.cons_append, List.length_cons, List.length_nil, Option.toList_some, Option.toList_none, Nat.reduceAdd, Nat.reduceLeDiff, true_and, and_true, sp_I, sp_II, sp_III, sp_J, sp_JI, sp_JJ, sp_R2, sp_R5I, sp_V]
def soF (m : Re) (a s : Int32) (x : Nat) : Int32 := if jR m (nI x) = false then 0 else bI (uR m (nI x) a s)
def soR (m : Re) (a s : Int32) : Int32 := sumTo (soF m a s) 32
def fr_subtreeOf (a s : Int32) (M : Mm) : Option Rs := if bS s = false ∧ wfR (M.1 2) s = true then some (.inl (some (.int (soR (M.1 2) a s)), M)) else none
theorem pr_subtreeOf (ad : Nat → Nat) (x0 x1 : Int32) (M : Mm) (r : Rs) (h : fr_subtreeOf x0 x1 M = some r) : T_X4_subtreeOf_0 ad r (sp_I fr_isJoined) (sp_III fr_isUnder) [some (.ref (ad 6)), some (.int x0), some (.int x1), none, none] [] M := by
  unfold fr_subtreeOf at h
  split at h
  · next hg =>
    cases h
    obtain ⟨hs, hw⟩ := hg
    simp only [T_X4_subtreeOf_0, tt_c, tt_lc, tt_il, tt_ll, tt_al, tt_is, tt_lsv, tt_as, tt_inc, tt_add, tt_sub, tt_mul, tt_and, tt_ladd, tt_lmul, tt_i2l, tt_lcmp, tt_dupr, tt_dup2, tt_eq0, tt_lt0, tt_le0, tt_ge0, tt_gt0, tt_eq2, tt_lt2, tt_ge2, tt_gt2, tt_le2, tt_gr, tt_gi, tt_pi, tt_gl, tt_pl, tt_ia, tt_st, tt_ir, tt_zr, tt_lr, tt_vr, tt_cv, tt_cs, tt_max, tt_min, tt_rem, tt_xor, tt_len, tt_cp, tt_thr, tt_xv, tt_xs, k_sv, k_cl, k_kz, List.getElem?_cons_zero, List.getElem?_cons_succ, List.drop_succ_cons, List.drop_zero, List.take_succ_cons, List.take_zero, List.reverse_cons, List.reverse_nil, List.nil_append, List.cons_append, List.length_cons, List.length_nil, Option.toList_some, Option.toList_none, Nat.reduceAdd, Nat.reduceLeDiff, true_and, and_true, sp_I, sp_II, sp_III, sp_J, sp_JI, sp_JJ, sp_R2, sp_R5I, sp_V]
    refine lp_of (σ := Nat) (fun j => j ≤ 32) (fun j => [some (.ref (ad 6)), some (.int x0), some (.int x1), some (.int (sumTo (soF (M.1 2) x0 x1) j)), some (.int (nI j))]) (fun _ => M) (fun j => 32 - j) ?_ 0 (by omega)
    intro k j hj hk
    simp only [T_X4_subtreeOf_38, T_X4_subtreeOf_37, T_X4_subtreeOf_5, T_X4_subtreeOf_0, tt_c, tt_lc, tt_il, tt_ll, tt_al, tt_is, tt_lsv, tt_as, tt_inc, tt_add, tt_sub, tt_mul, tt_and, tt_ladd, tt_lmul, tt_i2l, tt_lcmp, tt_dupr, tt_dup2, tt_eq0, tt_lt0, tt_le0, tt_ge0, tt_gt0, tt_eq2, tt_lt2, tt_ge2, tt_gt2, tt_le2, tt_gr, tt_gi, tt_pi, tt_gl, tt_pl, tt_ia, tt_st, tt_ir, tt_zr, tt_lr, tt_vr, tt_cv, tt_cs, tt_max, tt_min, tt_rem, tt_xor, tt_len, tt_cp, tt_thr, tt_xv, tt_xs, k_sv, k_cl, k_kz, List.getElem?_cons_zero, List.getElem?_cons_succ, List.drop_succ_cons, List.drop_zero, List.take_succ_cons, List.take_zero, List.reverse_cons, List.reverse_nil, List.nil_append, List.cons_append, List.length_cons, List.length_nil, Option.toList_some, Option.toList_none, Nat.reduceAdd, Nat.reduceLeDiff, true_and, and_true, sp_I, sp_II, sp_III, sp_J, sp_JI, sp_JJ, sp_R2, sp_R5I, sp_V, ge32 hj]
    refine ⟨fun c1 => ?_, fun c1 => ?_⟩
    · subst c1
      rfl
    · have hM := bM_n (show j < 32 by omega)
      have hk1 := hk (j + 1) (by omega) (by omega)
      simp only [sumTo, nI_succ, soF] at hk1
      simp only [fr_isJoined, hM, if_true, bI_0, tt_c, tt_lc, tt_il, tt_ll, tt_al, tt_is, tt_lsv, tt_as, tt_inc, tt_add, tt_sub, tt_mul, tt_and, tt_ladd, tt_lmul, tt_i2l, tt_lcmp, tt_dupr, tt_dup2, tt_eq0, tt_lt0, tt_le0, tt_ge0, tt_gt0, tt_eq2, tt_lt2, tt_ge2, tt_gt2, tt_le2, tt_gr, tt_gi, tt_pi, tt_gl, tt_pl, tt_ia, tt_st, tt_ir, tt_zr, tt_lr, tt_vr, tt_cv, tt_cs, tt_max, tt_min, tt_rem, tt_xor, tt_len, tt_cp, tt_thr, tt_xv, tt_xs, k_sv, k_cl, k_kz, List.getElem?_cons_zero, List.getElem?_cons_succ, List.drop_succ_cons, List.drop_zero, List.take_succ_cons, List.take_zero, List.reverse_cons, List.reverse_nil, List.nil_append, List.cons_append, List.length_cons, List.length_nil, Option.toList_some, Option.toList_none, Nat.reduceAdd, Nat.reduceLeDiff, true_and, and_true, sp_I, sp_II, sp_III, sp_J, sp_JI, sp_JJ, sp_R2, sp_R5I, sp_V]
      refine ⟨fun c2 => ?_, fun c2 => ?_⟩
      · rw [if_pos c2] at hk1
        exact hk1
      · rw [if_neg c2] at hk1
        simp only [Bool.not_eq_false] at c2
        simp only [fr_isUnder, hs, wfR_at hw (show j < 32 by omega) c2, and_self, if_true, bI_0, tt_c, tt_lc, tt_il, tt_ll, tt_al, tt_is, tt_lsv, tt_as, tt_inc, tt_add, tt_sub, tt_mul, tt_and, tt_ladd, tt_lmul, tt_i2l, tt_lcmp, tt_dupr, tt_dup2, tt_eq0, tt_lt0, tt_le0, tt_ge0, tt_gt0, tt_eq2, tt_lt2, tt_ge2, tt_gt2, tt_le2, tt_gr, tt_gi, tt_pi, tt_gl, tt_pl, tt_ia, tt_st, tt_ir, tt_zr, tt_lr, tt_vr, tt_cv, tt_cs, tt_max, tt_min, tt_rem, tt_xor, tt_len, tt_cp, tt_thr, tt_xv, tt_xs, k_sv, k_cl, k_kz, List.getElem?_cons_zero, List.getElem?_cons_succ, List.drop_succ_cons, List.drop_zero, List.take_succ_cons, List.take_zero, List.reverse_cons, List.reverse_nil, List.nil_append, List.cons_append, List.length_cons, List.length_nil, Option.toList_some, Option.toList_none, Nat.reduceAdd, Nat.reduceLeDiff, true_and, and_true, sp_I, sp_II, sp_III, sp_J, sp_JI, sp_JJ, sp_R2, sp_R5I, sp_V]
        refine ⟨fun c3 => ?_, fun c3 => ?_⟩
        · rw [c3, bI_f] at hk1
          exact hk1
        · simp only [Bool.not_eq_false] at c3
          rw [c3, bI_t] at hk1
          exact hk1
  · cases h
def fr_subtree (x s : Int32) (M : Mm) : Option Rs := qG (cdMS (M.1 2) x s) (wfR (M.1 2) s) (soR (M.1 2) x s) M
theorem pr_subtree (ad : Nat → Nat) (x0 x1 : Int32) (M : Mm) (r : Rs) (h : fr_subtree x0 x1 M = some r) : T_X4_subtree_0 ad r (sp_I fr_isJoined) (sp_I fr_isMember) (sp_I fr_isStripe) (sp_II fr_misses) (sp_II fr_subtreeOf) [some (.ref (ad 6)), some (.int x0), some (.int x1), none] [] M := by
  unfold fr_subtree cdMS at h
  cases hb : bM x0 <;> cases hs : bS x1 <;> cases hj : jR (M.1 2) x0 <;> simp only [hb, hs, hj, kc_43, kc_1, kc_42, kc_L, z_10, z_20, z_30, z_00, bI_t, bI_f, if_true, if_false, Bool.false_eq_true, Bool.true_eq_false, not_true_eq_false, not_false_eq_true, false_implies, true_implies, and_self, true_and, and_true, and_false, false_and, reduceCtorEq] at h <;>
    first | (have hg := (qG_0 h).1; have h0 := (qG_0 h).2) | have h0 := qG_1 h | have h0 := qG_2 h
  all_goals
    subst h0
    simp only [T_X4_subtree_62, T_X4_subtree_39, T_X4_subtree_38, T_X4_subtree_19, T_X4_subtree_18, T_X4_subtree_0, tt_c, tt_lc, tt_il, tt_ll, tt_al, tt_is, tt_lsv, tt_as, tt_inc, tt_add, tt_sub, tt_mul, tt_and, tt_ladd, tt_lmul, tt_i2l, tt_lcmp, tt_dupr, tt_dup2, tt_eq0, tt_lt0, tt_le0, tt_ge0, tt_gt0, tt_eq2, tt_lt2, tt_ge2, tt_gt2, tt_le2, tt_gr, tt_gi, tt_pi, tt_gl, tt_pl, tt_ia, tt_st, tt_ir, tt_zr, tt_lr, tt_vr, tt_cv, tt_cs, tt_max, tt_min, tt_rem, tt_xor, tt_len, tt_cp, tt_thr, tt_xv, tt_xs, k_sv, k_cl, k_kz, List.getElem?_cons_zero, List.getElem?_cons_succ, List.drop_succ_cons, List.drop_zero, List.take_succ_cons, List.take_zero, List.reverse_cons, List.reverse_nil, List.nil_append, List.cons_append, List.length_cons, List.length_nil, Option.toList_some, Option.toList_none, Nat.reduceAdd, Nat.reduceLeDiff, true_and, and_true, sp_I, sp_II, sp_III, sp_J, sp_JI, sp_JJ, sp_R2, sp_R5I, sp_V, kc_43, kc_1, kc_42, kc_L, z_10, z_20, z_30, z_00, bI_t, bI_f, if_true, if_false, Bool.false_eq_true, Bool.true_eq_false, not_true_eq_false, not_false_eq_true, false_implies, true_implies, and_self, true_and, and_true, and_false, false_and, reduceCtorEq, fr_isJoined, fr_isMember, fr_isStripe, fr_misses, fr_subtreeOf, hb, hs, hj, Bool.not_true, Bool.not_false, kc_def]
  simp only [hg, if_true, tt_c, tt_lc, tt_il, tt_ll, tt_al, tt_is, tt_lsv, tt_as, tt_inc, tt_add, tt_sub, tt_mul, tt_and, tt_ladd, tt_lmul, tt_i2l, tt_lcmp, tt_dupr, tt_dup2, tt_eq0, tt_lt0, tt_le0, tt_ge0, tt_gt0, tt_eq2, tt_lt2, tt_ge2, tt_gt2, tt_le2, tt_gr, tt_gi, tt_pi, tt_gl, tt_pl, tt_ia, tt_st, tt_ir, tt_zr, tt_lr, tt_vr, tt_cv, tt_cs, tt_max, tt_min, tt_rem, tt_xor, tt_len, tt_cp, tt_thr, tt_xv, tt_xs, k_sv, k_cl, k_kz, List.getElem?_cons_zero, List.getElem?_cons_succ, List.drop_succ_cons, List.drop_zero, List.take_succ_cons, List.take_zero, List.reverse_cons, List.reverse_nil, List.nil_append, List.cons_append, List.length_cons, List.length_nil, Option.toList_some, Option.toList_none, Nat.reduceAdd, Nat.reduceLeDiff, true_and, and_true, sp_I, sp_II, sp_III, sp_J, sp_JI, sp_JJ, sp_R2, sp_R5I, sp_V]
def inF (m : Re) (x : Int32) (s : Nat) (l : Int32) : Int32 := if ciR m x (nI s) ≤ 0 then l else nI s
def inR (m : Re) (x : Int32) : Int32 := foldTo (inF m x) (-1) 4
def fr_innerStripe (x : Int32) (M : Mm) : Option Rs := some (.inl (some (.int (inR (M.1 2) x)), M))
theorem pr_innerStripe (ad : Nat → Nat) (x0 : Int32) (M : Mm) (r : Rs) (h : fr_innerStripe x0 M = some r) : T_X4_innerStripe_0 ad r (sp_II fr_childrenIn) [some (.ref (ad 6)), some (.int x0), none, none] [] M := by
  cases h
  simp only [T_X4_innerStripe_0, tt_c, tt_lc, tt_il, tt_ll, tt_al, tt_is, tt_lsv, tt_as, tt_inc, tt_add, tt_sub, tt_mul, tt_and, tt_ladd, tt_lmul, tt_i2l, tt_lcmp, tt_dupr, tt_dup2, tt_eq0, tt_lt0, tt_le0, tt_ge0, tt_gt0, tt_eq2, tt_lt2, tt_ge2, tt_gt2, tt_le2, tt_gr, tt_gi, tt_pi, tt_gl, tt_pl, tt_ia, tt_st, tt_ir, tt_zr, tt_lr, tt_vr, tt_cv, tt_cs, tt_max, tt_min, tt_rem, tt_xor, tt_len, tt_cp, tt_thr, tt_xv, tt_xs, k_sv, k_cl, k_kz, List.getElem?_cons_zero, List.getElem?_cons_succ, List.drop_succ_cons, List.drop_zero, List.take_succ_cons, List.take_zero, List.reverse_cons, List.reverse_nil, List.nil_append, List.cons_append, List.length_cons, List.length_nil, Option.toList_some, Option.toList_none, Nat.reduceAdd, Nat.reduceLeDiff, true_and, and_true, sp_I, sp_II, sp_III, sp_J, sp_JI, sp_JJ, sp_R2, sp_R5I, sp_V]
  refine lp_of (σ := Nat) (fun j => j ≤ 4) (fun j => [some (.ref (ad 6)), some (.int x0), some (.int (foldTo (inF (M.1 2) x0) (-1) j)), some (.int (nI j))]) (fun _ => M) (fun j => 4 - j) ?_ 0 (by omega)
  intro k j hj hk
  simp only [T_X4_innerStripe_23, T_X4_innerStripe_4, T_X4_innerStripe_0, tt_c, tt_lc, tt_il, tt_ll, tt_al, tt_is, tt_lsv, tt_as, tt_inc, tt_add, tt_sub, tt_mul, tt_and, tt_ladd, tt_lmul, tt_i2l, tt_lcmp, tt_dupr, tt_dup2, tt_eq0, tt_lt0, tt_le0, tt_ge0, tt_gt0, tt_eq2, tt_lt2, tt_ge2, tt_gt2, tt_le2, tt_gr, tt_gi, tt_pi, tt_gl, tt_pl, tt_ia, tt_st, tt_ir, tt_zr, tt_lr, tt_vr, tt_cv, tt_cs, tt_max, tt_min, tt_rem, tt_xor, tt_len, tt_cp, tt_thr, tt_xv, tt_xs, k_sv, k_cl, k_kz, List.getElem?_cons_zero, List.getElem?_cons_succ, List.drop_succ_cons, List.drop_zero, List.take_succ_cons, List.take_zero, List.reverse_cons, List.reverse_nil, List.nil_append, List.cons_append, List.length_cons, List.length_nil, Option.toList_some, Option.toList_none, Nat.reduceAdd, Nat.reduceLeDiff, true_and, and_true, sp_I, sp_II, sp_III, sp_J, sp_JI, sp_JJ, sp_R2, sp_R5I, sp_V, ge4 hj]
  refine ⟨fun c1 => ?_, fun c1 => ?_⟩
  · subst c1
    rfl
  · have hk1 := hk (j + 1) (by omega) (by omega)
    simp only [foldTo, nI_succ, inF] at hk1
    simp only [fr_childrenIn, bS_n (show j < 4 by omega), if_true, tt_c, tt_lc, tt_il, tt_ll, tt_al, tt_is, tt_lsv, tt_as, tt_inc, tt_add, tt_sub, tt_mul, tt_and, tt_ladd, tt_lmul, tt_i2l, tt_lcmp, tt_dupr, tt_dup2, tt_eq0, tt_lt0, tt_le0, tt_ge0, tt_gt0, tt_eq2, tt_lt2, tt_ge2, tt_gt2, tt_le2, tt_gr, tt_gi, tt_pi, tt_gl, tt_pl, tt_ia, tt_st, tt_ir, tt_zr, tt_lr, tt_vr, tt_cv, tt_cs, tt_max, tt_min, tt_rem, tt_xor, tt_len, tt_cp, tt_thr, tt_xv, tt_xs, k_sv, k_cl, k_kz, List.getElem?_cons_zero, List.getElem?_cons_succ, List.drop_succ_cons, List.drop_zero, List.take_succ_cons, List.take_zero, List.reverse_cons, List.reverse_nil, List.nil_append, List.cons_append, List.length_cons, List.length_nil, Option.toList_some, Option.toList_none, Nat.reduceAdd, Nat.reduceLeDiff, true_and, and_true, sp_I, sp_II, sp_III, sp_J, sp_JI, sp_JJ, sp_R2, sp_R5I, sp_V]
    refine ⟨fun c2 => ?_, fun c2 => ?_⟩
    · rw [if_pos c2] at hk1
      exact hk1
    · rw [if_neg c2] at hk1
      exact hk1
theorem tt_sw_a {lo : Int} {v : Int32} {ts : List Tr} {dt t : Tr} {L : Ls} {st : List Value} {M : Mm} (j : Nat) (hv : v.toInt = lo + j) (ht : ts[j]? = some t) (h : t L st M) : tt_sw lo ts dt L (.int v :: st) M := by
  have hl : j < ts.length := (List.getElem?_eq_some_iff.mp ht).1
  unfold tt_sw
  dsimp only
  rw [hv, if_neg (by omega), show (lo + (j : Int) - lo).toNat = j by omega, ht]
  exact h
theorem tt_sw_o {lo : Int} {v : Int32} {ts : List Tr} {dt : Tr} {L : Ls} {st : List Value} {M : Mm} (hv : v.toInt < lo ∨ lo + ts.length ≤ v.toInt) (h : dt L st M) : tt_sw lo ts dt L (.int v :: st) M := by
  unfold tt_sw
  dsimp only
  rw [if_pos (by omega)]
  exact h
def moW (w : Int32) : Int32 := if 4 ≤ w then 5 + w - 7 else w
def moR (m : Re) (x w : Int32) : Int32 := if jR m x = false then 0 else if w = 4 then (if oR m x 3 = 1 then oR m x 4 else -1) else if w = 5 then coR m x else if w = 6 then inR m x else oR m x (moW w)
theorem bR_of {w : Int32} {n : Nat} (hn : n + 1 < 2 ^ 31) (h : bR w 0 (nI n) = false) : ∃ j : Nat, j < n + 1 ∧ w = nI j := by
  simp only [bR, Bool.or_eq_false_iff, decide_eq_false_iff_not, Decidable.not_not] at h
  obtain ⟨h1, h2⟩ := h
  obtain ⟨j, hj, rfl⟩ := nI_of h1
  rw [nI_leI (by omega) (by omega)] at h2
  exact ⟨j, by omega, rfl⟩
theorem bW_moW {w : Int32} (hw : bR w 0 9 = false) (h4 : ¬ w = 4) (h5 : ¬ w = 5) (h6 : ¬ w = 6) : bW (moW w) = false ∧ (w.toInt < 4 ∨ 7 ≤ w.toInt) := by
  obtain ⟨j, hj, rfl⟩ := bR_of (n := 9) (by omega) hw
  have hh : j = 0 ∨ j = 1 ∨ j = 2 ∨ j = 3 ∨ j = 4 ∨ j = 5 ∨ j = 6 ∨ j = 7 ∨ j = 8 ∨ j = 9 := by omega
  rcases hh with rfl | rfl | rfl | rfl | rfl | rfl | rfl | rfl | rfl | rfl <;> first | exact absurd rfl h4 | exact absurd rfl h5 | exact absurd rfl h6 | decide
def fr_memberOf (x w : Int32) (M : Mm) : Option Rs := if bM x = false ∧ bR w 0 9 = false then some (.inl (some (.int (moR (M.1 2) x w)), M)) else none
theorem pr_memberOf (ad : Nat → Nat) (x0 x1 : Int32) (M : Mm) (r : Rs) (h : fr_memberOf x0 x1 M = some r) : T_X4_memberOf_0 ad r (sp_I fr_childrenOf) (sp_I fr_innerStripe) (sp_I fr_isJoined) (sp_II fr_of) [some (.ref (ad 6)), some (.int x0), some (.int x1)] [] M := by
  unfold fr_memberOf at h
  split at h
  · next hg =>
    cases h
    obtain ⟨hx, hw⟩ := hg
    simp only [T_X4_memberOf_0, tt_c, tt_lc, tt_il, tt_ll, tt_al, tt_is, tt_lsv, tt_as, tt_inc, tt_add, tt_sub, tt_mul, tt_and, tt_ladd, tt_lmul, tt_i2l, tt_lcmp, tt_dupr, tt_dup2, tt_eq0, tt_lt0, tt_le0, tt_ge0, tt_gt0, tt_eq2, tt_lt2, tt_ge2, tt_gt2, tt_le2, tt_gr, tt_gi, tt_pi, tt_gl, tt_pl, tt_ia, tt_st, tt_ir, tt_zr, tt_lr, tt_vr, tt_cv, tt_cs, tt_max, tt_min, tt_rem, tt_xor, tt_len, tt_cp, tt_thr, tt_xv, tt_xs, k_sv, k_cl, k_kz, List.getElem?_cons_zero, List.getElem?_cons_succ, List.drop_succ_cons, List.drop_zero, List.take_succ_cons, List.take_zero, List.reverse_cons, List.reverse_nil, List.nil_append, List.cons_append, List.length_cons, List.length_nil, Option.toList_some, Option.toList_none, Nat.reduceAdd, Nat.reduceLeDiff, true_and, and_true, sp_I, sp_II, sp_III, sp_J, sp_JI, sp_JJ, sp_R2, sp_R5I, sp_V, fr_isJoined, hx, if_true, bI_0]
    refine ⟨fun c1 => ?_, fun c1 => ?_⟩
    · simp [moR, c1]
    · by_cases c4 : x1 = 4
      · subst c4
        refine tt_sw_a 0 rfl rfl ?_
        simp only [T_X4_memberOf_56, T_X4_memberOf_86, T_X4_memberOf_0, tt_c, tt_lc, tt_il, tt_ll, tt_al, tt_is, tt_lsv, tt_as, tt_inc, tt_add, tt_sub, tt_mul, tt_and, tt_ladd, tt_lmul, tt_i2l, tt_lcmp, tt_dupr, tt_dup2, tt_eq0, tt_lt0, tt_le0, tt_ge0, tt_gt0, tt_eq2, tt_lt2, tt_ge2, tt_gt2, tt_le2, tt_gr, tt_gi, tt_pi, tt_gl, tt_pl, tt_ia, tt_st, tt_ir, tt_zr, tt_lr, tt_vr, tt_cv, tt_cs, tt_max, tt_min, tt_rem, tt_xor, tt_len, tt_cp, tt_thr, tt_xv, tt_xs, k_sv, k_cl, k_kz, List.getElem?_cons_zero, List.getElem?_cons_succ, List.drop_succ_cons, List.drop_zero, List.take_succ_cons, List.take_zero, List.reverse_cons, List.reverse_nil, List.nil_append, List.cons_append, List.length_cons, List.length_nil, Option.toList_some, Option.toList_none, Nat.reduceAdd, Nat.reduceLeDiff, true_and, and_true, sp_I, sp_II, sp_III, sp_J, sp_JI, sp_JJ, sp_R2, sp_R5I, sp_V, fr_of, hx, bW_3, and_self, if_true, show bW 4 = false from rfl]
        simp only [moR, if_neg c1, if_true]
        refine ⟨fun c2 => ?_, fun c2 => ?_⟩ <;> simp [c2]
      · by_cases c5 : x1 = 5
        · subst c5
          refine tt_sw_a 1 rfl rfl ?_
          simp only [tt_c, tt_lc, tt_il, tt_ll, tt_al, tt_is, tt_lsv, tt_as, tt_inc, tt_add, tt_sub, tt_mul, tt_and, tt_ladd, tt_lmul, tt_i2l, tt_lcmp, tt_dupr, tt_dup2, tt_eq0, tt_lt0, tt_le0, tt_ge0, tt_gt0, tt_eq2, tt_lt2, tt_ge2, tt_gt2, tt_le2, tt_gr, tt_gi, tt_pi, tt_gl, tt_pl, tt_ia, tt_st, tt_ir, tt_zr, tt_lr, tt_vr, tt_cv, tt_cs, tt_max, tt_min, tt_rem, tt_xor, tt_len, tt_cp, tt_thr, tt_xv, tt_xs, k_sv, k_cl, k_kz, List.getElem?_cons_zero, List.getElem?_cons_succ, List.drop_succ_cons, List.drop_zero, List.take_succ_cons, List.take_zero, List.reverse_cons, List.reverse_nil, List.nil_append, List.cons_append, List.length_cons, List.length_nil, Option.toList_some, Option.toList_none, Nat.reduceAdd, Nat.reduceLeDiff, true_and, and_true, sp_I, sp_II, sp_III, sp_J, sp_JI, sp_JJ, sp_R2, sp_R5I, sp_V, fr_childrenOf, moR, if_neg c1, if_neg c4, if_true]
        · by_cases c6 : x1 = 6
          · subst c6
            refine tt_sw_a 2 rfl rfl ?_
            simp only [tt_c, tt_lc, tt_il, tt_ll, tt_al, tt_is, tt_lsv, tt_as, tt_inc, tt_add, tt_sub, tt_mul, tt_and, tt_ladd, tt_lmul, tt_i2l, tt_lcmp, tt_dupr, tt_dup2, tt_eq0, tt_lt0, tt_le0, tt_ge0, tt_gt0, tt_eq2, tt_lt2, tt_ge2, tt_gt2, tt_le2, tt_gr, tt_gi, tt_pi, tt_gl, tt_pl, tt_ia, tt_st, tt_ir, tt_zr, tt_lr, tt_vr, tt_cv, tt_cs, tt_max, tt_min, tt_rem, tt_xor, tt_len, tt_cp, tt_thr, tt_xv, tt_xs, k_sv, k_cl, k_kz, List.getElem?_cons_zero, List.getElem?_cons_succ, List.drop_succ_cons, List.drop_zero, List.take_succ_cons, List.take_zero, List.reverse_cons, List.reverse_nil, List.nil_append, List.cons_append, List.length_cons, List.length_nil, Option.toList_some, Option.toList_none, Nat.reduceAdd, Nat.reduceLeDiff, true_and, and_true, sp_I, sp_II, sp_III, sp_J, sp_JI, sp_JJ, sp_R2, sp_R5I, sp_V, fr_innerStripe, moR, if_neg c1, if_neg c4, if_neg c5, if_true]
          · obtain ⟨hW, hT⟩ := bW_moW hw c4 c5 c6
            refine tt_sw_o (by simp only [List.length_cons, List.length_nil]; omega) ?_
            simp only [T_X4_memberOf_56, T_X4_memberOf_86, T_X4_memberOf_0, tt_c, tt_lc, tt_il, tt_ll, tt_al, tt_is, tt_lsv, tt_as, tt_inc, tt_add, tt_sub, tt_mul, tt_and, tt_ladd, tt_lmul, tt_i2l, tt_lcmp, tt_dupr, tt_dup2, tt_eq0, tt_lt0, tt_le0, tt_ge0, tt_gt0, tt_eq2, tt_lt2, tt_ge2, tt_gt2, tt_le2, tt_gr, tt_gi, tt_pi, tt_gl, tt_pl, tt_ia, tt_st, tt_ir, tt_zr, tt_lr, tt_vr, tt_cv, tt_cs, tt_max, tt_min, tt_rem, tt_xor, tt_len, tt_cp, tt_thr, tt_xv, tt_xs, k_sv, k_cl, k_kz, List.getElem?_cons_zero, List.getElem?_cons_succ, List.drop_succ_cons, List.drop_zero, List.take_succ_cons, List.take_zero, List.reverse_cons, List.reverse_nil, List.nil_append, List.cons_append, List.length_cons, List.length_nil, Option.toList_some, Option.toList_none, Nat.reduceAdd, Nat.reduceLeDiff, true_and, and_true, sp_I, sp_II, sp_III, sp_J, sp_JI, sp_JJ, sp_R2, sp_R5I, sp_V, fr_of, hx, true_and, moR, if_neg c1, if_neg c4, if_neg c5, if_neg c6]
            refine ⟨fun c7 => ?_, fun c7 => ?_⟩
            · rw [moW, if_pos c7] at hW ⊢
              simp only [hW, if_true, tt_c, tt_lc, tt_il, tt_ll, tt_al, tt_is, tt_lsv, tt_as, tt_inc, tt_add, tt_sub, tt_mul, tt_and, tt_ladd, tt_lmul, tt_i2l, tt_lcmp, tt_dupr, tt_dup2, tt_eq0, tt_lt0, tt_le0, tt_ge0, tt_gt0, tt_eq2, tt_lt2, tt_ge2, tt_gt2, tt_le2, tt_gr, tt_gi, tt_pi, tt_gl, tt_pl, tt_ia, tt_st, tt_ir, tt_zr, tt_lr, tt_vr, tt_cv, tt_cs, tt_max, tt_min, tt_rem, tt_xor, tt_len, tt_cp, tt_thr, tt_xv, tt_xs, k_sv, k_cl, k_kz, List.getElem?_cons_zero, List.getElem?_cons_succ, List.drop_succ_cons, List.drop_zero, List.take_succ_cons, List.take_zero, List.reverse_cons, List.reverse_nil, List.nil_append, List.cons_append, List.length_cons, List.length_nil, Option.toList_some, Option.toList_none, Nat.reduceAdd, Nat.reduceLeDiff, true_and, and_true, sp_I, sp_II, sp_III, sp_J, sp_JI, sp_JJ, sp_R2, sp_R5I, sp_V]
            · rw [moW, if_neg c7] at hW ⊢
              simp only [hW, if_true, tt_c, tt_lc, tt_il, tt_ll, tt_al, tt_is, tt_lsv, tt_as, tt_inc, tt_add, tt_sub, tt_mul, tt_and, tt_ladd, tt_lmul, tt_i2l, tt_lcmp, tt_dupr, tt_dup2, tt_eq0, tt_lt0, tt_le0, tt_ge0, tt_gt0, tt_eq2, tt_lt2, tt_ge2, tt_gt2, tt_le2, tt_gr, tt_gi, tt_pi, tt_gl, tt_pl, tt_ia, tt_st, tt_ir, tt_zr, tt_lr, tt_vr, tt_cv, tt_cs, tt_max, tt_min, tt_rem, tt_xor, tt_len, tt_cp, tt_thr, tt_xv, tt_xs, k_sv, k_cl, k_kz, List.getElem?_cons_zero, List.getElem?_cons_succ, List.drop_succ_cons, List.drop_zero, List.take_succ_cons, List.take_zero, List.reverse_cons, List.reverse_nil, List.nil_append, List.cons_append, List.length_cons, List.length_nil, Option.toList_some, Option.toList_none, Nat.reduceAdd, Nat.reduceLeDiff, true_and, and_true, sp_I, sp_II, sp_III, sp_J, sp_JI, sp_JJ, sp_R2, sp_R5I, sp_V]
  · cases h
def fr_member (x w : Int32) (M : Mm) : Option Rs := qG (if bM x = true then 1 else if bR w 0 9 = true then 2 else 0) true (moR (M.1 2) x w) M
theorem pr_member (ad : Nat → Nat) (x0 x1 : Int32) (M : Mm) (r : Rs) (h : fr_member x0 x1 M = some r) : T_X4_member_0 ad r (sp_III fr_in) (sp_I fr_isMember) (sp_II fr_memberOf) [some (.ref (ad 6)), some (.int x0), some (.int x1)] [] M := by
  unfold fr_member at h
  cases hb : bM x0 <;> cases hs : bR x1 0 9 <;> simp only [hb, hs, kc_43, kc_1, kc_42, kc_L, z_10, z_20, z_30, z_00, bI_t, bI_f, if_true, if_false, Bool.false_eq_true, Bool.true_eq_false, not_true_eq_false, not_false_eq_true, false_implies, true_implies, and_self, true_and, and_true, and_false, false_and, reduceCtorEq] at h <;>
    first | (have h0 := (qG_0 h).2) | have h0 := qG_1 h | have h0 := qG_2 h
  all_goals
    subst h0
    simp only [T_X4_member_47, T_X4_member_27, T_X4_member_0, tt_c, tt_lc, tt_il, tt_ll, tt_al, tt_is, tt_lsv, tt_as, tt_inc, tt_add, tt_sub, tt_mul, tt_and, tt_ladd, tt_lmul, tt_i2l, tt_lcmp, tt_dupr, tt_dup2, tt_eq0, tt_lt0, tt_le0, tt_ge0, tt_gt0, tt_eq2, tt_lt2, tt_ge2, tt_gt2, tt_le2, tt_gr, tt_gi, tt_pi, tt_gl, tt_pl, tt_ia, tt_st, tt_ir, tt_zr, tt_lr, tt_vr, tt_cv, tt_cs, tt_max, tt_min, tt_rem, tt_xor, tt_len, tt_cp, tt_thr, tt_xv, tt_xs, k_sv, k_cl, k_kz, List.getElem?_cons_zero, List.getElem?_cons_succ, List.drop_succ_cons, List.drop_zero, List.take_succ_cons, List.take_zero, List.reverse_cons, List.reverse_nil, List.nil_append, List.cons_append, List.length_cons, List.length_nil, Option.toList_some, Option.toList_none, Nat.reduceAdd, Nat.reduceLeDiff, true_and, and_true, sp_I, sp_II, sp_III, sp_J, sp_JI, sp_JJ, sp_R2, sp_R5I, sp_V, kc_43, kc_1, kc_42, kc_L, z_10, z_20, z_30, z_00, bI_t, bI_f, if_true, if_false, Bool.false_eq_true, Bool.true_eq_false, not_true_eq_false, not_false_eq_true, false_implies, true_implies, and_self, true_and, and_true, and_false, false_and, reduceCtorEq, fr_in, fr_isMember, fr_memberOf, hb, hs, Bool.not_true, Bool.not_false, kc_def]
