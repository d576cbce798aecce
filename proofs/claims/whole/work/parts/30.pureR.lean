/-! the reference in numbers: its readers -/
abbrev Re : Type := Nat → Int32
def k_r2 (M : Mm) (m : Re) : Mm := (fun b => if b = 2 then m else M.1 b, M.2)
theorem k_r2_2 (M : Mm) (m : Re) : (k_r2 M m).1 2 = m := rfl
theorem k_r2_0 (M : Mm) (m : Re) : (k_r2 M m).1 0 = M.1 0 := rfl
theorem k_r2_r (M : Mm) (m n : Re) : k_r2 (k_r2 M m) n = k_r2 M n := by
  unfold k_r2
  congr 1
  funext b
  by_cases h : b = 2 <;> simp [h]
theorem k_r2_s (M : Mm) : k_r2 M (M.1 2) = M := by
  obtain ⟨a, b⟩ := M
  unfold k_r2
  congr 1
  funext b
  by_cases h : b = 2 <;> simp [h]
theorem k_up2 (M : Mm) (j : Nat) (v : Int32) : k_up M 2 j v = k_r2 M (upd (M.1 2) j v) := by
  unfold k_r2 k_up
  congr 1
  funext b
  by_cases h : b = 2 <;> simp [h]
def bW (w : Int32) : Bool := decide (w < 0) || decide (¬ w < 12)
theorem bM_of {x : Int32} (h : bM x = false) : ∃ j : Nat, j < 32 ∧ x = nI j := by
  simp only [bM, Bool.or_eq_false_iff, decide_eq_false_iff_not, Decidable.not_not] at h
  exact k_ix (N := 32) (by decide) h.1 h.2
theorem bS_of {x : Int32} (h : bS x = false) : ∃ j : Nat, j < 4 ∧ x = nI j := by
  simp only [bS, Bool.or_eq_false_iff, decide_eq_false_iff_not, Decidable.not_not] at h
  exact k_ix (N := 4) (by decide) h.1 h.2
theorem bW_of {x : Int32} (h : bW x = false) : ∃ j : Nat, j < 12 ∧ x = nI j := by
  simp only [bW, Bool.or_eq_false_iff, decide_eq_false_iff_not, Decidable.not_not] at h
  exact k_ix (N := 12) (by decide) h.1 h.2
theorem bW_n {j : Nat} (h : j < 12) : bW (nI j) = false := by
  simp only [bW, Bool.or_eq_false_iff, decide_eq_false_iff_not, Decidable.not_not]
  refine ⟨nI_pos (by omega), ?_⟩
  rw [show (12 : Int32) = nI 12 from rfl, nI_ltI (by omega) (by omega)]
  exact h
theorem bW_8 {s : Int32} (h : bS s = false) : bW (8 + s) = false := by
  obtain ⟨j, hj, rfl⟩ := bS_of h
  rw [show (8 : Int32) = nI 8 from rfl, nI_add]
  exact bW_n (by omega)
theorem bW_0 : bW 0 = false := by decide
theorem bW_1 : bW 1 = false := by decide
theorem bW_2 : bW 2 = false := by decide
theorem bW_3 : bW 3 = false := by decide
theorem k_oin {x w : Int32} (hx : bM x = false) (hw : bW w = false) : vp_in (11 + 12 * x + w) 395 := by
  obtain ⟨j, hj, rfl⟩ := bM_of hx
  obtain ⟨k, hk, rfl⟩ := bW_of hw
  rw [show (11 : Int32) = nI 11 from rfl, show (12 : Int32) = nI 12 from rfl, pk_mul, nI_add, nI_add]
  exact vp_in_nI (by omega) (by omega)
def oR (m : Re) (x w : Int32) : Int32 := m (11 + 12 * x + w).toNatClampNeg
def fr_of (x w : Int32) (M : Mm) : Option Rs := if bM x = false ∧ bW w = false then some (.inl (some (.int (oR (M.1 2) x w)), M)) else none
theorem pr_of (ad : Nat → Nat) (x0 x1 : Int32) (M : Mm) (r : Rs) (h : fr_of x0 x1 M = some r) : T_X4_of_0 ad r [some (.ref (ad 6)), some (.int x0), some (.int x1)] [] M := by
  unfold fr_of at h
  split at h
  · next hg =>
    cases h
    simp only [T_X4_of_0, tt_c, tt_lc, tt_il, tt_ll, tt_al, tt_is, tt_lsv, tt_as, tt_inc, tt_add, tt_sub, tt_mul, tt_and, tt_ladd, tt_lmul, tt_i2l, tt_lcmp, tt_dupr, tt_dup2, tt_eq0, tt_lt0, tt_le0, tt_ge0, tt_gt0, tt_eq2, tt_lt2, tt_ge2, tt_gt2, tt_le2, tt_gr, tt_gi, tt_pi, tt_gl, tt_pl, tt_ia, tt_st, tt_ir, tt_zr, tt_lr, tt_vr, tt_cv, tt_cs, tt_max, tt_min, tt_rem, tt_xor, tt_len, tt_cp, tt_thr, tt_xv, tt_xs, k_sv, k_cl, k_kz, List.getElem?_cons_zero, List.getElem?_cons_succ, List.drop_succ_cons, List.drop_zero, List.take_succ_cons, List.take_zero, List.reverse_cons, List.reverse_nil, List.nil_append, List.cons_append, List.length_cons, List.length_nil, Option.toList_some, Option.toList_none, Nat.reduceAdd, Nat.reduceLeDiff, true_and, and_true, sp_I, sp_II, sp_III, sp_J, sp_JI, sp_JJ, sp_R2, sp_R5I, sp_V]
    exact ⟨k_oin hg.1 hg.2, rfl⟩
  · cases h
def upR (m : Re) (x w v : Int32) : Re := upd m (11 + 12 * x + w).toNatClampNeg v
def fr_put (x w v : Int32) (M : Mm) : Option Rs := if bM x = false ∧ bW w = false then some (.inl (none, k_r2 M (upR (M.1 2) x w v))) else none
theorem pr_put (ad : Nat → Nat) (x0 x1 x2 : Int32) (M : Mm) (r : Rs) (h : fr_put x0 x1 x2 M = some r) : T_X4_put_0 ad r [some (.ref (ad 6)), some (.int x0), some (.int x1), some (.int x2)] [] M := by
  unfold fr_put at h
  split at h
  · next hg =>
    cases h
    simp only [T_X4_put_0, tt_c, tt_lc, tt_il, tt_ll, tt_al, tt_is, tt_lsv, tt_as, tt_inc, tt_add, tt_sub, tt_mul, tt_and, tt_ladd, tt_lmul, tt_i2l, tt_lcmp, tt_dupr, tt_dup2, tt_eq0, tt_lt0, tt_le0, tt_ge0, tt_gt0, tt_eq2, tt_lt2, tt_ge2, tt_gt2, tt_le2, tt_gr, tt_gi, tt_pi, tt_gl, tt_pl, tt_ia, tt_st, tt_ir, tt_zr, tt_lr, tt_vr, tt_cv, tt_cs, tt_max, tt_min, tt_rem, tt_xor, tt_len, tt_cp, tt_thr, tt_xv, tt_xs, k_sv, k_cl, k_kz, List.getElem?_cons_zero, List.getElem?_cons_succ, List.drop_succ_cons, List.drop_zero, List.take_succ_cons, List.take_zero, List.reverse_cons, List.reverse_nil, List.nil_append, List.cons_append, List.length_cons, List.length_nil, Option.toList_some, Option.toList_none, Nat.reduceAdd, Nat.reduceLeDiff, true_and, and_true, sp_I, sp_II, sp_III, sp_J, sp_JI, sp_JJ, sp_R2, sp_R5I, sp_V, k_up2]
    exact ⟨k_oin hg.1 hg.2, rfl⟩
  · cases h
def jR (m : Re) (x : Int32) : Bool := decide (oR m x 0 = 1)
def fr_isJoined (x : Int32) (M : Mm) : Option Rs := if bM x = false then some (.inl (some (.int (bI (jR (M.1 2) x))), M)) else none
theorem pr_isJoined (ad : Nat → Nat) (x0 : Int32) (M : Mm) (r : Rs) (h : fr_isJoined x0 M = some r) : T_X4_isJoined_0 ad r (sp_II fr_of) [some (.ref (ad 6)), some (.int x0)] [] M := by
  unfold fr_isJoined at h
  split at h
  · next hg =>
    cases h
    simp only [T_X4_isJoined_15, T_X4_isJoined_0, tt_c, tt_lc, tt_il, tt_ll, tt_al, tt_is, tt_lsv, tt_as, tt_inc, tt_add, tt_sub, tt_mul, tt_and, tt_ladd, tt_lmul, tt_i2l, tt_lcmp, tt_dupr, tt_dup2, tt_eq0, tt_lt0, tt_le0, tt_ge0, tt_gt0, tt_eq2, tt_lt2, tt_ge2, tt_gt2, tt_le2, tt_gr, tt_gi, tt_pi, tt_gl, tt_pl, tt_ia, tt_st, tt_ir, tt_zr, tt_lr, tt_vr, tt_cv, tt_cs, tt_max, tt_min, tt_rem, tt_xor, tt_len, tt_cp, tt_thr, tt_xv, tt_xs, k_sv, k_cl, k_kz, List.getElem?_cons_zero, List.getElem?_cons_succ, List.drop_succ_cons, List.drop_zero, List.take_succ_cons, List.take_zero, List.reverse_cons, List.reverse_nil, List.nil_append, List.cons_append, List.length_cons, List.length_nil, Option.toList_some, Option.toList_none, Nat.reduceAdd, Nat.reduceLeDiff, true_and, and_true, sp_I, sp_II, sp_III, sp_J, sp_JI, sp_JJ, sp_R2, sp_R5I, sp_V, fr_of, hg, bW_0, if_true]
    by_cases c1 : oR (M.1 2) x0 0 = 1 <;> simp [jR, bI, c1]
  · cases h
def icR (m : Re) (x a s : Int32) : Bool := jR m x && decide (oR m x (8 + s) = a)
def fr_isChild (x a s : Int32) (M : Mm) : Option Rs := if bM x = false ∧ bS s = false then some (.inl (some (.int (bI (icR (M.1 2) x a s))), M)) else none
theorem pr_isChild (ad : Nat → Nat) (x0 x1 x2 : Int32) (M : Mm) (r : Rs) (h : fr_isChild x0 x1 x2 M = some r) : T_X4_isChild_0 ad r (sp_I fr_isJoined) (sp_II fr_of) [some (.ref (ad 6)), some (.int x0), some (.int x1), some (.int x2)] [] M := by
  unfold fr_isChild at h
  split at h
  · next hg =>
    cases h
    simp only [T_X4_isChild_26, T_X4_isChild_25, T_X4_isChild_0, tt_c, tt_lc, tt_il, tt_ll, tt_al, tt_is, tt_lsv, tt_as, tt_inc, tt_add, tt_sub, tt_mul, tt_and, tt_ladd, tt_lmul, tt_i2l, tt_lcmp, tt_dupr, tt_dup2, tt_eq0, tt_lt0, tt_le0, tt_ge0, tt_gt0, tt_eq2, tt_lt2, tt_ge2, tt_gt2, tt_le2, tt_gr, tt_gi, tt_pi, tt_gl, tt_pl, tt_ia, tt_st, tt_ir, tt_zr, tt_lr, tt_vr, tt_cv, tt_cs, tt_max, tt_min, tt_rem, tt_xor, tt_len, tt_cp, tt_thr, tt_xv, tt_xs, k_sv, k_cl, k_kz, List.getElem?_cons_zero, List.getElem?_cons_succ, List.drop_succ_cons, List.drop_zero, List.take_succ_cons, List.take_zero, List.reverse_cons, List.reverse_nil, List.nil_append, List.cons_append, List.length_cons, List.length_nil, Option.toList_some, Option.toList_none, Nat.reduceAdd, Nat.reduceLeDiff, true_and, and_true, sp_I, sp_II, sp_III, sp_J, sp_JI, sp_JJ, sp_R2, sp_R5I, sp_V, fr_isJoined, fr_of, hg.1, bW_8 hg.2, if_true, bI_0]
    by_cases c1 : jR (M.1 2) x0 = true <;> by_cases c2 : oR (M.1 2) x0 (8 + x2) = x1 <;> simp [icR, bI, c1, c2]
  · cases h
def ciR (m : Re) (a s : Int32) : Int32 := sumTo (fun x => bI (icR m (nI x) a s)) 32
def fr_childrenIn (a s : Int32) (M : Mm) : Option Rs := if bS s = false then some (.inl (some (.int (ciR (M.1 2) a s)), M)) else none
theorem pr_childrenIn (ad : Nat → Nat) (x0 x1 : Int32) (M : Mm) (r : Rs) (h : fr_childrenIn x0 x1 M = some r) : T_X4_childrenIn_0 ad r (sp_III fr_isChild) [some (.ref (ad 6)), some (.int x0), some (.int x1), none, none] [] M := by
  unfold fr_childrenIn at h
  split at h
  · next hg =>
    cases h
    simp only [T_X4_childrenIn_0, tt_c, tt_lc, tt_il, tt_ll, tt_al, tt_is, tt_lsv, tt_as, tt_inc, tt_add, tt_sub, tt_mul, tt_and, tt_ladd, tt_lmul, tt_i2l, tt_lcmp, tt_dupr, tt_dup2, tt_eq0, tt_lt0, tt_le0, tt_ge0, tt_gt0, tt_eq2, tt_lt2, tt_ge2, tt_gt2, tt_le2, tt_gr, tt_gi, tt_pi, tt_gl, tt_pl, tt_ia, tt_st, tt_ir, tt_zr, tt_lr, tt_vr, tt_cv, tt_cs, tt_max, tt_min, tt_rem, tt_xor, tt_len, tt_cp, tt_thr, tt_xv, tt_xs, k_sv, k_cl, k_kz, List.getElem?_cons_zero, List.getElem?_cons_succ, List.drop_succ_cons, List.drop_zero, List.take_succ_cons, List.take_zero, List.reverse_cons, List.reverse_nil, List.nil_append, List.cons_append, List.length_cons, List.length_nil, Option.toList_some, Option.toList_none, Nat.reduceAdd, Nat.reduceLeDiff, true_and, and_true, sp_I, sp_II, sp_III, sp_J, sp_JI, sp_JJ, sp_R2, sp_R5I, sp_V]
    refine lp_of (σ := Nat) (fun j => j ≤ 32) (fun j => [some (.ref (ad 6)), some (.int x0), some (.int x1), some (.int (sumTo (fun x => bI (icR (M.1 2) (nI x) x0 x1)) j)), some (.int (nI j))]) (fun _ => M) (fun j => 32 - j) ?_ 0 (by omega)
    intro k j hj hk
    simp only [T_X4_childrenIn_29, T_X4_childrenIn_5, T_X4_childrenIn_0, tt_c, tt_lc, tt_il, tt_ll, tt_al, tt_is, tt_lsv, tt_as, tt_inc, tt_add, tt_sub, tt_mul, tt_and, tt_ladd, tt_lmul, tt_i2l, tt_lcmp, tt_dupr, tt_dup2, tt_eq0, tt_lt0, tt_le0, tt_ge0, tt_gt0, tt_eq2, tt_lt2, tt_ge2, tt_gt2, tt_le2, tt_gr, tt_gi, tt_pi, tt_gl, tt_pl, tt_ia, tt_st, tt_ir, tt_zr, tt_lr, tt_vr, tt_cv, tt_cs, tt_max, tt_min, tt_rem, tt_xor, tt_len, tt_cp, tt_thr, tt_xv, tt_xs, k_sv, k_cl, k_kz, List.getElem?_cons_zero, List.getElem?_cons_succ, List.drop_succ_cons, List.drop_zero, List.take_succ_cons, List.take_zero, List.reverse_cons, List.reverse_nil, List.nil_append, List.cons_append, List.length_cons, List.length_nil, Option.toList_some, Option.toList_none, Nat.reduceAdd, Nat.reduceLeDiff, true_and, and_true, sp_I, sp_II, sp_III, sp_J, sp_JI, sp_JJ, sp_R2, sp_R5I, sp_V, ge32 hj]
    refine ⟨fun c1 => ?_, fun c1 => ?_⟩
    · subst c1
      rfl
    · simp only [fr_isChild, bM_n (show j < 32 by omega), hg, and_self, if_true, bI_0, tt_c, tt_lc, tt_il, tt_ll, tt_al, tt_is, tt_lsv, tt_as, tt_inc, tt_add, tt_sub, tt_mul, tt_and, tt_ladd, tt_lmul, tt_i2l, tt_lcmp, tt_dupr, tt_dup2, tt_eq0, tt_lt0, tt_le0, tt_ge0, tt_gt0, tt_eq2, tt_lt2, tt_ge2, tt_gt2, tt_le2, tt_gr, tt_gi, tt_pi, tt_gl, tt_pl, tt_ia, tt_st, tt_ir, tt_zr, tt_lr, tt_vr, tt_cv, tt_cs, tt_max, tt_min, tt_rem, tt_xor, tt_len, tt_cp, tt_thr, tt_xv, tt_xs, k_sv, k_cl, k_kz, List.getElem?_cons_zero, List.getElem?_cons_succ, List.drop_succ_cons, List.drop_zero, List.take_succ_cons, List.take_zero, List.reverse_cons, List.reverse_nil, List.nil_append, List.cons_append, List.length_cons, List.length_nil, Option.toList_some, Option.toList_none, Nat.reduceAdd, Nat.reduceLeDiff, true_and, and_true, sp_I, sp_II, sp_III, sp_J, sp_JI, sp_JJ, sp_R2, sp_R5I, sp_V]
      refine ⟨fun c2 => ?_, fun c2 => ?_⟩
      · simpa [sumTo, nI_succ, c2, bI_t, bI_f] using hk (j + 1) (by omega) (by omega)
      · simp only [Bool.not_eq_false] at c2
        simpa [sumTo, nI_succ, c2, bI_t, bI_f] using hk (j + 1) (by omega) (by omega)
  · cases h
def coR (m : Re) (a : Int32) : Int32 := sumTo (fun s => ciR m a (nI s)) 4
def fr_childrenOf (a : Int32) (M : Mm) : Option Rs := some (.inl (some (.int (coR (M.1 2) a)), M))
theorem pr_childrenOf (ad : Nat → Nat) (x0 : Int32) (M : Mm) (r : Rs) (h : fr_childrenOf x0 M = some r) : T_X4_childrenOf_0 ad r (sp_II fr_childrenIn) [some (.ref (ad 6)), some (.int x0), none, none] [] M := by
  cases h
  simp only [T_X4_childrenOf_0, tt_c, tt_lc, tt_il, tt_ll, tt_al, tt_is, tt_lsv, tt_as, tt_inc, tt_add, tt_sub, tt_mul, tt_and, tt_ladd, tt_lmul, tt_i2l, tt_lcmp, tt_dupr, tt_dup2, tt_eq0, tt_lt0, tt_le0, tt_ge0, tt_gt0, tt_eq2, tt_lt2, tt_ge2, tt_gt2, tt_le2, tt_gr, tt_gi, tt_pi, tt_gl, tt_pl, tt_ia, tt_st, tt_ir, tt_zr, tt_lr, tt_vr, tt_cv, tt_cs, tt_max, tt_min, tt_rem, tt_xor, tt_len, tt_cp, tt_thr, tt_xv, tt_xs, k_sv, k_cl, k_kz, List.getElem?_cons_zero, List.getElem?_cons_succ, List.drop_succ_cons, List.drop_zero, List.take_succ_cons, List.take_zero, List.reverse_cons, List.reverse_nil, List.nil_append, List.cons_append, List.length_cons, List.length_nil, Option.toList_some, Option.toList_none, Nat.reduceAdd, Nat.reduceLeDiff, true_and, and_true, sp_I, sp_II, sp_III, sp_J, sp_JI, sp_JJ, sp_R2, sp_R5I, sp_V]
  refine lp_of (σ := Nat) (fun j => j ≤ 4) (fun j => [some (.ref (ad 6)), some (.int x0), some (.int (sumTo (fun s => ciR (M.1 2) x0 (nI s)) j)), some (.int (nI j))]) (fun _ => M) (fun j => 4 - j) ?_ 0 (by omega)
  intro k j hj hk
  simp only [T_X4_childrenOf_4, T_X4_childrenOf_0, tt_c, tt_lc, tt_il, tt_ll, tt_al, tt_is, tt_lsv, tt_as, tt_inc, tt_add, tt_sub, tt_mul, tt_and, tt_ladd, tt_lmul, tt_i2l, tt_lcmp, tt_dupr, tt_dup2, tt_eq0, tt_lt0, tt_le0, tt_ge0, tt_gt0, tt_eq2, tt_lt2, tt_ge2, tt_gt2, tt_le2, tt_gr, tt_gi, tt_pi, tt_gl, tt_pl, tt_ia, tt_st, tt_ir, tt_zr, tt_lr, tt_vr, tt_cv, tt_cs, tt_max, tt_min, tt_rem, tt_xor, tt_len, tt_cp, tt_thr, tt_xv, tt_xs, k_sv, k_cl, k_kz, List.getElem?_cons_zero, List.getElem?_cons_succ, List.drop_succ_cons, List.drop_zero, List.take_succ_cons, List.take_zero, List.reverse_cons, List.reverse_nil, List.nil_append, List.cons_append, List.length_cons, List.length_nil, Option.toList_some, Option.toList_none, Nat.reduceAdd, Nat.reduceLeDiff, true_and, and_true, sp_I, sp_II, sp_III, sp_J, sp_JI, sp_JJ, sp_R2, sp_R5I, sp_V, ge4 hj]
  refine ⟨fun c1 => ?_, fun c1 => ?_⟩
  · subst c1
    rfl
  · simp only [fr_childrenIn, bS_n (show j < 4 by omega), if_true, tt_c, tt_lc, tt_il, tt_ll, tt_al, tt_is, tt_lsv, tt_as, tt_inc, tt_add, tt_sub, tt_mul, tt_and, tt_ladd, tt_lmul, tt_i2l, tt_lcmp, tt_dupr, tt_dup2, tt_eq0, tt_lt0, tt_le0, tt_ge0, tt_gt0, tt_eq2, tt_lt2, tt_ge2, tt_gt2, tt_le2, tt_gr, tt_gi, tt_pi, tt_gl, tt_pl, tt_ia, tt_st, tt_ir, tt_zr, tt_lr, tt_vr, tt_cv, tt_cs, tt_max, tt_min, tt_rem, tt_xor, tt_len, tt_cp, tt_thr, tt_xv, tt_xs, k_sv, k_cl, k_kz, List.getElem?_cons_zero, List.getElem?_cons_succ, List.drop_succ_cons, List.drop_zero, List.take_succ_cons, List.take_zero, List.reverse_cons, List.reverse_nil, List.nil_append, List.cons_append, List.length_cons, List.length_nil, Option.toList_some, Option.toList_none, Nat.reduceAdd, Nat.reduceLeDiff, true_and, and_true, sp_I, sp_II, sp_III, sp_J, sp_JI, sp_JJ, sp_R2, sp_R5I, sp_V]
    simpa [sumTo, nI_succ] using hk (j + 1) (by omega) (by omega)
def drO (m : Re) (s : Int32) : Nat → Int32 → Int32 → Option Int32
  | 0, _, _ => none
  | n + 1, k, p => if p = 100 then some k else if p = -1 then some (-1) else if bM p = false then drO m s n (k + 1) (oR m p (8 + s)) else none
def okR (m : Re) (x s : Int32) : Bool := (drO m s 34 0 x).isSome
def dR (m : Re) (x s : Int32) : Int32 := (drO m s 34 0 x).getD (-1)
def fr_depthOf (x s : Int32) (M : Mm) : Option Rs := if bS s = false ∧ okR (M.1 2) x s = true then some (.inl (some (.int (dR (M.1 2) x s)), M)) else none
theorem pr_depthOf (ad : Nat → Nat) (x0 x1 : Int32) (M : Mm) (r : Rs) (h : fr_depthOf x0 x1 M = some r) : T_X4_depthOf_0 ad r (sp_II fr_of) [some (.ref (ad 6)), some (.int x0), some (.int x1), none, none] [] M := by
  unfold fr_depthOf at h
  split at h
  · next hg =>
    cases h
    obtain ⟨hs, hok⟩ := hg
    obtain ⟨d, hd⟩ := Option.isSome_iff_exists.mp hok
    have hdR : dR (M.1 2) x0 x1 = d := by simp [dR, hd]
    rw [hdR]
    simp only [T_X4_depthOf_0, tt_c, tt_lc, tt_il, tt_ll, tt_al, tt_is, tt_lsv, tt_as, tt_inc, tt_add, tt_sub, tt_mul, tt_and, tt_ladd, tt_lmul, tt_i2l, tt_lcmp, tt_dupr, tt_dup2, tt_eq0, tt_lt0, tt_le0, tt_ge0, tt_gt0, tt_eq2, tt_lt2, tt_ge2, tt_gt2, tt_le2, tt_gr, tt_gi, tt_pi, tt_gl, tt_pl, tt_ia, tt_st, tt_ir, tt_zr, tt_lr, tt_vr, tt_cv, tt_cs, tt_max, tt_min, tt_rem, tt_xor, tt_len, tt_cp, tt_thr, tt_xv, tt_xs, k_sv, k_cl, k_kz, List.getElem?_cons_zero, List.getElem?_cons_succ, List.drop_succ_cons, List.drop_zero, List.take_succ_cons, List.take_zero, List.reverse_cons, List.reverse_nil, List.nil_append, List.cons_append, List.length_cons, List.length_nil, Option.toList_some, Option.toList_none, Nat.reduceAdd, Nat.reduceLeDiff, true_and, and_true, sp_I, sp_II, sp_III, sp_J, sp_JI, sp_JJ, sp_R2, sp_R5I, sp_V]
    refine lp_of (σ := Nat × Int32 × Int32) (fun q => drO (M.1 2) x1 q.1 q.2.1 q.2.2 = some d) (fun q => [some (.ref (ad 6)), some (.int x0), some (.int x1), some (.int q.2.1), some (.int q.2.2)]) (fun _ => M) (fun q => q.1) ?_ (34, 0, x0) hd
    rintro k ⟨n, c, p⟩ hd hk
    dsimp only at hd
    cases n with
    | zero => cases hd
    | succ n =>
      rw [drO] at hd
      simp only [T_X4_depthOf_48, T_X4_depthOf_36, T_X4_depthOf_5, T_X4_depthOf_0, tt_c, tt_lc, tt_il, tt_ll, tt_al, tt_is, tt_lsv, tt_as, tt_inc, tt_add, tt_sub, tt_mul, tt_and, tt_ladd, tt_lmul, tt_i2l, tt_lcmp, tt_dupr, tt_dup2, tt_eq0, tt_lt0, tt_le0, tt_ge0, tt_gt0, tt_eq2, tt_lt2, tt_ge2, tt_gt2, tt_le2, tt_gr, tt_gi, tt_pi, tt_gl, tt_pl, tt_ia, tt_st, tt_ir, tt_zr, tt_lr, tt_vr, tt_cv, tt_cs, tt_max, tt_min, tt_rem, tt_xor, tt_len, tt_cp, tt_thr, tt_xv, tt_xs, k_sv, k_cl, k_kz, List.getElem?_cons_zero, List.getElem?_cons_succ, List.drop_succ_cons, List.drop_zero, List.take_succ_cons, List.take_zero, List.reverse_cons, List.reverse_nil, List.nil_append, List.cons_append, List.length_cons, List.length_nil, Option.toList_some, Option.toList_none, Nat.reduceAdd, Nat.reduceLeDiff, true_and, and_true, sp_I, sp_II, sp_III, sp_J, sp_JI, sp_JJ, sp_R2, sp_R5I, sp_V]
      refine ⟨fun c1 => ?_, fun c1 => ⟨fun c2 => ?_, fun c2 => ?_⟩⟩
      · rw [if_pos c1] at hd
        cases hd
        exact ⟨fun _ => rfl, fun z => absurd c1 z⟩
      · rw [if_neg c1, if_pos c2] at hd
        cases hd
        exact ⟨fun z => absurd z c1, fun _ => rfl⟩
      · rw [if_neg c1, if_neg c2] at hd
        split at hd
        · next hp =>
          simp only [fr_of, hp, bW_8 hs, and_self, if_true, tt_c, tt_lc, tt_il, tt_ll, tt_al, tt_is, tt_lsv, tt_as, tt_inc, tt_add, tt_sub, tt_mul, tt_and, tt_ladd, tt_lmul, tt_i2l, tt_lcmp, tt_dupr, tt_dup2, tt_eq0, tt_lt0, tt_le0, tt_ge0, tt_gt0, tt_eq2, tt_lt2, tt_ge2, tt_gt2, tt_le2, tt_gr, tt_gi, tt_pi, tt_gl, tt_pl, tt_ia, tt_st, tt_ir, tt_zr, tt_lr, tt_vr, tt_cv, tt_cs, tt_max, tt_min, tt_rem, tt_xor, tt_len, tt_cp, tt_thr, tt_xv, tt_xs, k_sv, k_cl, k_kz, List.getElem?_cons_zero, List.getElem?_cons_succ, List.drop_succ_cons, List.drop_zero, List.take_succ_cons, List.take_zero, List.reverse_cons, List.reverse_nil, List.nil_append, List.cons_append, List.length_cons, List.length_nil, Option.toList_some, Option.toList_none, Nat.reduceAdd, Nat.reduceLeDiff, true_and, and_true, sp_I, sp_II, sp_III, sp_J, sp_JI, sp_JJ, sp_R2, sp_R5I, sp_V]
          exact hk (n, c + 1, oR (M.1 2) p (8 + x1)) hd (by dsimp only; omega)
        · cases hd
  · cases h
def urO (m : Re) (s a : Int32) : Nat → Int32 → Option Bool
  | 0, _ => none
  | n + 1, p => if p = 100 then some (decide (p = a)) else if p = -1 then some (decide (p = a)) else if p = a then some true else if bM p = false then urO m s a n (oR m p (8 + s)) else none
theorem urO_ok (m : Re) (s a : Int32) : ∀ (n : Nat) (k p : Int32), (drO m s n k p).isSome = true → (urO m s a n p).isSome = true := by
  intro n
  induction n with
  | zero => intro k p h; cases h
  | succ n ih =>
    intro k p h
    rw [drO] at h
    rw [urO]
    split
    · rfl
    · next c1 =>
      rw [if_neg c1] at h
      split
      · rfl
      · next c2 =>
        rw [if_neg c2] at h
        split
        · rfl
        · split at h
          · next hp =>
            rw [if_pos hp]
            exact ih _ _ h
          · cases h
def uR (m : Re) (x a s : Int32) : Bool := (urO m s a 34 x).getD false
def fr_isUnder (x a s : Int32) (M : Mm) : Option Rs := if bS s = false ∧ okR (M.1 2) x s = true then some (.inl (some (.int (bI (uR (M.1 2) x a s))), M)) else none
theorem pr_isUnder (ad : Nat → Nat) (x0 x1 x2 : Int32) (M : Mm) (r : Rs) (h : fr_isUnder x0 x1 x2 M = some r) : T_X4_isUnder_0 ad r (sp_II fr_of) [some (.ref (ad 6)), some (.int x0), some (.int x1), some (.int x2), none] [] M := by
  unfold fr_isUnder at h
  split at h
  · next hg =>
    cases h
    obtain ⟨hs, hok⟩ := hg
    obtain ⟨d, hd⟩ := Option.isSome_iff_exists.mp (urO_ok _ _ x1 _ _ _ hok)
    have hdR : uR (M.1 2) x0 x1 x2 = d := by simp [uR, hd]
    rw [hdR]
    simp only [T_X4_isUnder_0, tt_c, tt_lc, tt_il, tt_ll, tt_al, tt_is, tt_lsv, tt_as, tt_inc, tt_add, tt_sub, tt_mul, tt_and, tt_ladd, tt_lmul, tt_i2l, tt_lcmp, tt_dupr, tt_dup2, tt_eq0, tt_lt0, tt_le0, tt_ge0, tt_gt0, tt_eq2, tt_lt2, tt_ge2, tt_gt2, tt_le2, tt_gr, tt_gi, tt_pi, tt_gl, tt_pl, tt_ia, tt_st, tt_ir, tt_zr, tt_lr, tt_vr, tt_cv, tt_cs, tt_max, tt_min, tt_rem, tt_xor, tt_len, tt_cp, tt_thr, tt_xv, tt_xs, k_sv, k_cl, k_kz, List.getElem?_cons_zero, List.getElem?_cons_succ, List.drop_succ_cons, List.drop_zero, List.take_succ_cons, List.take_zero, List.reverse_cons, List.reverse_nil, List.nil_append, List.cons_append, List.length_cons, List.length_nil, Option.toList_some, Option.toList_none, Nat.reduceAdd, Nat.reduceLeDiff, true_and, and_true, sp_I, sp_II, sp_III, sp_J, sp_JI, sp_JJ, sp_R2, sp_R5I, sp_V]
    refine lp_of (σ := Nat × Int32) (fun q => urO (M.1 2) x2 x1 q.1 q.2 = some d) (fun q => [some (.ref (ad 6)), some (.int x0), some (.int x1), some (.int x2), some (.int q.2)]) (fun _ => M) (fun q => q.1) ?_ (34, x0) hd
    rintro k ⟨n, p⟩ hd hk
    dsimp only at hd
    cases n with
    | zero => cases hd
    | succ n =>
      rw [urO] at hd
      simp only [T_X4_isUnder_48, T_X4_isUnder_37, T_X4_isUnder_3, T_X4_isUnder_0, tt_c, tt_lc, tt_il, tt_ll, tt_al, tt_is, tt_lsv, tt_as, tt_inc, tt_add, tt_sub, tt_mul, tt_and, tt_ladd, tt_lmul, tt_i2l, tt_lcmp, tt_dupr, tt_dup2, tt_eq0, tt_lt0, tt_le0, tt_ge0, tt_gt0, tt_eq2, tt_lt2, tt_ge2, tt_gt2, tt_le2, tt_gr, tt_gi, tt_pi, tt_gl, tt_pl, tt_ia, tt_st, tt_ir, tt_zr, tt_lr, tt_vr, tt_cv, tt_cs, tt_max, tt_min, tt_rem, tt_xor, tt_len, tt_cp, tt_thr, tt_xv, tt_xs, k_sv, k_cl, k_kz, List.getElem?_cons_zero, List.getElem?_cons_succ, List.drop_succ_cons, List.drop_zero, List.take_succ_cons, List.take_zero, List.reverse_cons, List.reverse_nil, List.nil_append, List.cons_append, List.length_cons, List.length_nil, Option.toList_some, Option.toList_none, Nat.reduceAdd, Nat.reduceLeDiff, true_and, and_true, sp_I, sp_II, sp_III, sp_J, sp_JI, sp_JJ, sp_R2, sp_R5I, sp_V]
      refine ⟨fun c1 => ?_, fun c1 => ⟨fun c2 => ?_, fun c2 => ⟨fun c3 => ?_, fun c3 => ?_⟩⟩⟩
      · rw [if_pos c1] at hd
        cases hd
        by_cases c3 : p = x1 <;> simp [c3, bI]
      · rw [if_neg c1, if_pos c2] at hd
        cases hd
        by_cases c3 : p = x1 <;> simp [c3, bI]
      · rw [if_neg c1, if_neg c2, if_pos c3] at hd
        cases hd
        simp [c3, bI]
      · rw [if_neg c1, if_neg c2, if_neg c3] at hd
        split at hd
        · next hp =>
          simp only [fr_of, hp, bW_8 hs, and_self, if_true, tt_c, tt_lc, tt_il, tt_ll, tt_al, tt_is, tt_lsv, tt_as, tt_inc, tt_add, tt_sub, tt_mul, tt_and, tt_ladd, tt_lmul, tt_i2l, tt_lcmp, tt_dupr, tt_dup2, tt_eq0, tt_lt0, tt_le0, tt_ge0, tt_gt0, tt_eq2, tt_lt2, tt_ge2, tt_gt2, tt_le2, tt_gr, tt_gi, tt_pi, tt_gl, tt_pl, tt_ia, tt_st, tt_ir, tt_zr, tt_lr, tt_vr, tt_cv, tt_cs, tt_max, tt_min, tt_rem, tt_xor, tt_len, tt_cp, tt_thr, tt_xv, tt_xs, k_sv, k_cl, k_kz, List.getElem?_cons_zero, List.getElem?_cons_succ, List.drop_succ_cons, List.drop_zero, List.take_succ_cons, List.take_zero, List.reverse_cons, List.reverse_nil, List.nil_append, List.cons_append, List.length_cons, List.length_nil, Option.toList_some, Option.toList_none, Nat.reduceAdd, Nat.reduceLeDiff, true_and, and_true, sp_I, sp_II, sp_III, sp_J, sp_JI, sp_JJ, sp_R2, sp_R5I, sp_V]
          exact hk (n, oR (M.1 2) p (8 + x2)) hd (by dsimp only; omega)
        · cases hd
  · cases h
