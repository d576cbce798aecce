/-! the reference in numbers: more of its questions -/
def wA (m : Re) : Bool := wfR m 0 && wfR m 1 && wfR m 2 && wfR m 3
theorem wA_at {m : Re} (h : wA m = true) {j : Nat} (hj : j < 4) : wfR m (nI j) = true := by
  simp only [wA, Bool.and_eq_true] at h
  obtain ⟨⟨⟨h0, h1⟩, h2⟩, h3⟩ := h
  match j, hj with
  | 0, _ => exact h0
  | 1, _ => exact h1
  | 2, _ => exact h2
  | 3, _ => exact h3
theorem wA_okA {m : Re} (h : wA m = true) {j : Nat} (hj : j < 32) (hJ : jR m (nI j) = true) : okA m (nI j) = true := by
  simp only [wA, Bool.and_eq_true] at h
  obtain ⟨⟨⟨h0, h1⟩, h2⟩, h3⟩ := h
  simp only [okA, Bool.and_eq_true]
  exact ⟨⟨⟨wfR_at h0 hj hJ, wfR_at h1 hj hJ⟩, wfR_at h2 hj hJ⟩, wfR_at h3 hj hJ⟩
theorem bM_100 : bM 100 = true := by decide
def cdPS (m : Re) (x s : Int32) : Int32 := if ¬ x = 100 ∧ bM x = true then 1 else if bS s = true then 1 else if x = 100 then 0 else if jR m x = true then 0 else 2
def qZ (cd : Int32) (g b : Bool) (M : Mm) : Option Rs := if cd = 0 then (if g = true then some (.inl (some (.int (bI b)), kc M 0)) else none) else some (.inl (some (.int 0), kc M cd))
theorem qZ_0 {g b : Bool} {M : Mm} {r : Rs} (h : qZ 0 g b M = some r) : g = true ∧ r = .inl (some (.int (bI b)), kc M 0) := qG_0 h
theorem qZ_1 {g b : Bool} {M : Mm} {r : Rs} (h : qZ 1 g b M = some r) : r = .inl (some (.int 0), kc M 1) := qG_1 h
theorem qZ_2 {g b : Bool} {M : Mm} {r : Rs} (h : qZ 2 g b M = some r) : r = .inl (some (.int 0), kc M 2) := qG_2 h
theorem qZ_3 {g b : Bool} {M : Mm} {r : Rs} (h : qZ 3 g b M = some r) : r = .inl (some (.int 0), kc M 3) := qG_3 h
def fr_hasRoom (x s : Int32) (M : Mm) : Option Rs := qZ (cdPS (M.1 2) x s) (decide (x = 100) || okR (M.1 2) x s) (rmR (M.1 2) x s) M
theorem pr_hasRoom (ad : Nat → Nat) (x0 x1 : Int32) (M : Mm) (r : Rs) (h : fr_hasRoom x0 x1 M = some r) : T_X4_hasRoom_0 ad r (sp_I fr_isJoined) (sp_I fr_isMember) (sp_II fr_isRoomy) (sp_I fr_isStripe) (sp_II fr_misses) [some (.ref (ad 6)), some (.int x0), some (.int x1), none] [] M := by
  unfold fr_hasRoom cdPS at h
  by_cases h1 : x0 = 100
  · subst h1
    cases hs : bS x1 <;> simp only [hs, kc_43, kc_1, kc_42, kc_L, z_10, z_20, z_30, z_00, bI_t, bI_f, if_true, if_false, Bool.false_eq_true, Bool.true_eq_false, not_true_eq_false, not_false_eq_true, false_implies, true_implies, and_self, true_and, and_true, and_false, false_and, reduceCtorEq, decide_true, Bool.true_or] at h <;>
      first | (have h0 := (qZ_0 h).2) | have h0 := qZ_1 h
    all_goals
      subst h0
      simp only [T_X4_hasRoom_78, T_X4_hasRoom_77, T_X4_hasRoom_51, T_X4_hasRoom_46, T_X4_hasRoom_50, T_X4_hasRoom_25, T_X4_hasRoom_24, T_X4_hasRoom_13, T_X4_hasRoom_0, tt_c, tt_lc, tt_il, tt_ll, tt_al, tt_is, tt_lsv, tt_as, tt_inc, tt_add, tt_sub, tt_mul, tt_and, tt_ladd, tt_lmul, tt_i2l, tt_lcmp, tt_dupr, tt_dup2, tt_eq0, tt_lt0, tt_le0, tt_ge0, tt_gt0, tt_eq2, tt_lt2, tt_ge2, tt_gt2, tt_le2, tt_gr, tt_gi, tt_pi, tt_gl, tt_pl, tt_ia, tt_st, tt_ir, tt_zr, tt_lr, tt_vr, tt_cv, tt_cs, tt_max, tt_min, tt_rem, tt_xor, tt_len, tt_cp, tt_thr, tt_xv, tt_xs, k_sv, k_cl, k_kz, List.getElem?_cons_zero, List.getElem?_cons_succ, List.drop_succ_cons, List.drop_zero, List.take_succ_cons, List.take_zero, List.reverse_cons, List.reverse_nil, List.nil_append, List.cons_append, List.length_cons, List.length_nil, Option.toList_some, Option.toList_none, Nat.reduceAdd, Nat.reduceLeDiff, true_and, and_true, sp_I, sp_II, sp_III, sp_J, sp_JI, sp_JJ, sp_R2, sp_R5I, sp_V, kc_43, kc_1, kc_42, kc_L, z_10, z_20, z_30, z_00, bI_t, bI_f, if_true, if_false, Bool.false_eq_true, Bool.true_eq_false, not_true_eq_false, not_false_eq_true, false_implies, true_implies, and_self, true_and, and_true, and_false, false_and, reduceCtorEq, fr_isJoined, fr_isMember, fr_isStripe, fr_misses, fr_isRoomy, bM_100, hs, Bool.not_true, Bool.not_false, kc_def, true_or, or_true, false_or, or_false]
    cases hr : rmR (M.1 2) 100 x1 <;> simp [bI]
  · cases hb : bM x0 <;> cases hs : bS x1 <;> cases hj : jR (M.1 2) x0 <;> simp only [h1, hb, hs, hj, kc_43, kc_1, kc_42, kc_L, z_10, z_20, z_30, z_00, bI_t, bI_f, if_true, if_false, Bool.false_eq_true, Bool.true_eq_false, not_true_eq_false, not_false_eq_true, false_implies, true_implies, and_self, true_and, and_true, and_false, false_and, reduceCtorEq, decide_false, Bool.false_or] at h <;>
      first | (have hg := (qZ_0 h).1; have h0 := (qZ_0 h).2) | have h0 := qZ_1 h | have h0 := qZ_2 h
    all_goals
      subst h0
      simp only [T_X4_hasRoom_78, T_X4_hasRoom_77, T_X4_hasRoom_51, T_X4_hasRoom_46, T_X4_hasRoom_50, T_X4_hasRoom_25, T_X4_hasRoom_24, T_X4_hasRoom_13, T_X4_hasRoom_0, tt_c, tt_lc, tt_il, tt_ll, tt_al, tt_is, tt_lsv, tt_as, tt_inc, tt_add, tt_sub, tt_mul, tt_and, tt_ladd, tt_lmul, tt_i2l, tt_lcmp, tt_dupr, tt_dup2, tt_eq0, tt_lt0, tt_le0, tt_ge0, tt_gt0, tt_eq2, tt_lt2, tt_ge2, tt_gt2, tt_le2, tt_gr, tt_gi, tt_pi, tt_gl, tt_pl, tt_ia, tt_st, tt_ir, tt_zr, tt_lr, tt_vr, tt_cv, tt_cs, tt_max, tt_min, tt_rem, tt_xor, tt_len, tt_cp, tt_thr, tt_xv, tt_xs, k_sv, k_cl, k_kz, List.getElem?_cons_zero, List.getElem?_cons_succ, List.drop_succ_cons, List.drop_zero, List.take_succ_cons, List.take_zero, List.reverse_cons, List.reverse_nil, List.nil_append, List.cons_append, List.length_cons, List.length_nil, Option.toList_some, Option.toList_none, Nat.reduceAdd, Nat.reduceLeDiff, true_and, and_true, sp_I, sp_II, sp_III, sp_J, sp_JI, sp_JJ, sp_R2, sp_R5I, sp_V, kc_43, kc_1, kc_42, kc_L, z_10, z_20, z_30, z_00, bI_t, bI_f, if_true, if_false, Bool.false_eq_true, Bool.true_eq_false, not_true_eq_false, not_false_eq_true, false_implies, true_implies, and_self, true_and, and_true, and_false, false_and, reduceCtorEq, fr_isJoined, fr_isMember, fr_isStripe, fr_misses, fr_isRoomy, h1, hb, hs, hj, Bool.not_true, Bool.not_false, kc_def, true_or, or_true, false_or, or_false]
    simp only [hg, if_true, tt_c, tt_lc, tt_il, tt_ll, tt_al, tt_is, tt_lsv, tt_as, tt_inc, tt_add, tt_sub, tt_mul, tt_and, tt_ladd, tt_lmul, tt_i2l, tt_lcmp, tt_dupr, tt_dup2, tt_eq0, tt_lt0, tt_le0, tt_ge0, tt_gt0, tt_eq2, tt_lt2, tt_ge2, tt_gt2, tt_le2, tt_gr, tt_gi, tt_pi, tt_gl, tt_pl, tt_ia, tt_st, tt_ir, tt_zr, tt_lr, tt_vr, tt_cv, tt_cs, tt_max, tt_min, tt_rem, tt_xor, tt_len, tt_cp, tt_thr, tt_xv, tt_xs, k_sv, k_cl, k_kz, List.getElem?_cons_zero, List.getElem?_cons_succ, List.drop_succ_cons, List.drop_zero, List.take_succ_cons, List.take_zero, List.reverse_cons, List.reverse_nil, List.nil_append, List.cons_append, List.length_cons, List.length_nil, Option.toList_some, Option.toList_none, Nat.reduceAdd, Nat.reduceLeDiff, true_and, and_true, sp_I, sp_II, sp_III, sp_J, sp_JI, sp_JJ, sp_R2, sp_R5I, sp_V, kc_43, kc_1, kc_42, kc_L, z_10, z_20, z_30, z_00, bI_t, bI_f, if_true, if_false, Bool.false_eq_true, Bool.true_eq_false, not_true_eq_false, not_false_eq_true, false_implies, true_implies, and_self, true_and, and_true, and_false, false_and, reduceCtorEq]
    cases hr : rmR (M.1 2) x0 x1 <;> simp [bI]
def fr_ranksBefore (x y s : Int32) (M : Mm) : Option Rs := qZ (if bM x = true then 1 else if bM y = true then 1 else if bS s = true then 1 else if x = y then 2 else if jR (M.1 2) x = false then 3 else if jR (M.1 2) y = false then 3 else 0) true (ahR (M.1 2) x y s) M
theorem pr_ranksBefore (ad : Nat → Nat) (x0 x1 x2 : Int32) (M : Mm) (r : Rs) (h : fr_ranksBefore x0 x1 x2 M = some r) : T_X4_ranksBefore_0 ad r (sp_III fr_isAhead) (sp_I fr_isJoined) (sp_I fr_isMember) (sp_I fr_isStripe) [some (.ref (ad 6)), some (.int x0), some (.int x1), some (.int x2), none] [] M := by
  unfold fr_ranksBefore at h
  by_cases h1 : x0 = x1
  · subst h1
    cases hb : bM x0 <;> cases hs : bS x2 <;> simp only [hb, hs, kc_43, kc_1, kc_42, kc_L, z_10, z_20, z_30, z_00, bI_t, bI_f, if_true, if_false, Bool.false_eq_true, Bool.true_eq_false, not_true_eq_false, not_false_eq_true, false_implies, true_implies, and_self, true_and, and_true, and_false, false_and, reduceCtorEq] at h <;>
      first | have h0 := qZ_1 h | have h0 := qZ_2 h
    all_goals
      subst h0
      simp only [T_X4_ranksBefore_93, T_X4_ranksBefore_92, T_X4_ranksBefore_68, T_X4_ranksBefore_67, T_X4_ranksBefore_26, T_X4_ranksBefore_25, T_X4_ranksBefore_0, tt_c, tt_lc, tt_il, tt_ll, tt_al, tt_is, tt_lsv, tt_as, tt_inc, tt_add, tt_sub, tt_mul, tt_and, tt_ladd, tt_lmul, tt_i2l, tt_lcmp, tt_dupr, tt_dup2, tt_eq0, tt_lt0, tt_le0, tt_ge0, tt_gt0, tt_eq2, tt_lt2, tt_ge2, tt_gt2, tt_le2, tt_gr, tt_gi, tt_pi, tt_gl, tt_pl, tt_ia, tt_st, tt_ir, tt_zr, tt_lr, tt_vr, tt_cv, tt_cs, tt_max, tt_min, tt_rem, tt_xor, tt_len, tt_cp, tt_thr, tt_xv, tt_xs, k_sv, k_cl, k_kz, List.getElem?_cons_zero, List.getElem?_cons_succ, List.drop_succ_cons, List.drop_zero, List.take_succ_cons, List.take_zero, List.reverse_cons, List.reverse_nil, List.nil_append, List.cons_append, List.length_cons, List.length_nil, Option.toList_some, Option.toList_none, Nat.reduceAdd, Nat.reduceLeDiff, true_and, and_true, sp_I, sp_II, sp_III, sp_J, sp_JI, sp_JJ, sp_R2, sp_R5I, sp_V, kc_43, kc_1, kc_42, kc_L, z_10, z_20, z_30, z_00, bI_t, bI_f, if_true, if_false, Bool.false_eq_true, Bool.true_eq_false, not_true_eq_false, not_false_eq_true, false_implies, true_implies, and_self, true_and, and_true, and_false, false_and, reduceCtorEq, fr_isMember, fr_isStripe, hb, hs, Bool.not_true, Bool.not_false, kc_def, true_or, or_true, false_or, or_false]
  · cases hb : bM x0 <;> cases hb1 : bM x1 <;> cases hs : bS x2 <;> cases hj : jR (M.1 2) x0 <;> cases hj1 : jR (M.1 2) x1 <;> simp only [h1, hb, hb1, hs, hj, hj1, kc_43, kc_1, kc_42, kc_L, z_10, z_20, z_30, z_00, bI_t, bI_f, if_true, if_false, Bool.false_eq_true, Bool.true_eq_false, not_true_eq_false, not_false_eq_true, false_implies, true_implies, and_self, true_and, and_true, and_false, false_and, reduceCtorEq] at h <;>
      first | (have h0 := (qZ_0 h).2) | have h0 := qZ_1 h | have h0 := qZ_2 h | have h0 := qZ_3 h
    all_goals
      subst h0
      simp only [T_X4_ranksBefore_93, T_X4_ranksBefore_92, T_X4_ranksBefore_68, T_X4_ranksBefore_67, T_X4_ranksBefore_26, T_X4_ranksBefore_25, T_X4_ranksBefore_0, tt_c, tt_lc, tt_il, tt_ll, tt_al, tt_is, tt_lsv, tt_as, tt_inc, tt_add, tt_sub, tt_mul, tt_and, tt_ladd, tt_lmul, tt_i2l, tt_lcmp, tt_dupr, tt_dup2, tt_eq0, tt_lt0, tt_le0, tt_ge0, tt_gt0, tt_eq2, tt_lt2, tt_ge2, tt_gt2, tt_le2, tt_gr, tt_gi, tt_pi, tt_gl, tt_pl, tt_ia, tt_st, tt_ir, tt_zr, tt_lr, tt_vr, tt_cv, tt_cs, tt_max, tt_min, tt_rem, tt_xor, tt_len, tt_cp, tt_thr, tt_xv, tt_xs, k_sv, k_cl, k_kz, List.getElem?_cons_zero, List.getElem?_cons_succ, List.drop_succ_cons, List.drop_zero, List.take_succ_cons, List.take_zero, List.reverse_cons, List.reverse_nil, List.nil_append, List.cons_append, List.length_cons, List.length_nil, Option.toList_some, Option.toList_none, Nat.reduceAdd, Nat.reduceLeDiff, true_and, and_true, sp_I, sp_II, sp_III, sp_J, sp_JI, sp_JJ, sp_R2, sp_R5I, sp_V, kc_43, kc_1, kc_42, kc_L, z_10, z_20, z_30, z_00, bI_t, bI_f, if_true, if_false, Bool.false_eq_true, Bool.true_eq_false, not_true_eq_false, not_false_eq_true, false_implies, true_implies, and_self, true_and, and_true, and_false, false_and, reduceCtorEq, fr_isJoined, fr_isMember, fr_isStripe, fr_isAhead, h1, hb, hb1, hs, hj, hj1, Bool.not_true, Bool.not_false, kc_def, true_or, or_true, false_or, or_false]
    cases hr : ahR (M.1 2) x0 x1 x2 <;> simp [bI]
def crGo (m : Re) (a s : Int32) : Nat → Nat → Int32 → Int32
  | 0, _, _ => -1
  | n + 1, x, l => if icR m (nI x) a s = true then (if l = 0 then nI x else crGo m a s n (x + 1) (l + -1)) else crGo m a s n (x + 1) l
def fr_child (x s i : Int32) (M : Mm) : Option Rs := qG (if ¬ x = 100 ∧ bM x = true then 1 else if bS s = true then 1 else if ¬ 0 ≤ i then 2 else if ¬ x = 100 ∧ jR (M.1 2) x = false then 3 else 0) true (crGo (M.1 2) x s 32 0 i) M
theorem pr_child_in (ad : Nat → Nat) (x0 x1 x2 : Int32) (M : Mm) (v : Int32) (hs : bS x1 = false) : T_X4_child_82 ad (.inl (some (.int (crGo (M.1 2) x0 x1 32 0 x2)), M)) (sp_III fr_isChild) (sp_I fr_isJoined) (sp_I fr_isMember) (sp_I fr_isStripe) [some (.ref (ad 6)), some (.int x0), some (.int x1), some (.int x2), some (.int v), some (.int x2), some (.int 0)] [] M := by
  refine lp_of (σ := Nat × Nat × Int32) (fun q => q.1 + q.2.1 = 32 ∧ crGo (M.1 2) x0 x1 q.1 q.2.1 q.2.2 = crGo (M.1 2) x0 x1 32 0 x2) (fun q => [some (.ref (ad 6)), some (.int x0), some (.int x1), some (.int x2), some (.int v), some (.int q.2.2), some (.int (nI q.2.1))]) (fun _ => M) (fun q => q.1) ?_ (32, 0, x2) ⟨rfl, rfl⟩
  rintro k ⟨n, j, l⟩ ⟨hj, hd⟩ hk
  dsimp only at hj hd
  simp only [T_X4_child_82, T_X4_child_111, tt_c, tt_lc, tt_il, tt_ll, tt_al, tt_is, tt_lsv, tt_as, tt_inc, tt_add, tt_sub, tt_mul, tt_and, tt_ladd, tt_lmul, tt_i2l, tt_lcmp, tt_dupr, tt_dup2, tt_eq0, tt_lt0, tt_le0, tt_ge0, tt_gt0, tt_eq2, tt_lt2, tt_ge2, tt_gt2, tt_le2, tt_gr, tt_gi, tt_pi, tt_gl, tt_pl, tt_ia, tt_st, tt_ir, tt_zr, tt_lr, tt_vr, tt_cv, tt_cs, tt_max, tt_min, tt_rem, tt_xor, tt_len, tt_cp, tt_thr, tt_xv, tt_xs, k_sv, k_cl, k_kz, List.getElem?_cons_zero, List.getElem?_cons_succ, List.drop_succ_cons, List.drop_zero, List.take_succ_cons, List.take_zero, List.reverse_cons, List.reverse_nil, List.nil_append, List.cons_append, List.length_cons, List.length_nil, Option.toList_some, Option.toList_none, Nat.reduceAdd, Nat.reduceLeDiff, true_and, and_true, sp_I, sp_II, sp_III, sp_J, sp_JI, sp_JJ, sp_R2, sp_R5I, sp_V, ge32 (show j ≤ 32 by omega)]
  refine ⟨fun c1 => ?_, fun c1 => ?_⟩
  · have hn : n = 0 := by omega
    subst hn
    rw [← hd]
    rfl
  · obtain ⟨n, rfl⟩ : ∃ n', n = n' + 1 := ⟨n - 1, by omega⟩
    rw [crGo] at hd
    have hM := bM_n (show j < 32 by omega)
    simp only [fr_isChild, hM, hs, and_self, if_true, bI_0, tt_c, tt_lc, tt_il, tt_ll, tt_al, tt_is, tt_lsv, tt_as, tt_inc, tt_add, tt_sub, tt_mul, tt_and, tt_ladd, tt_lmul, tt_i2l, tt_lcmp, tt_dupr, tt_dup2, tt_eq0, tt_lt0, tt_le0, tt_ge0, tt_gt0, tt_eq2, tt_lt2, tt_ge2, tt_gt2, tt_le2, tt_gr, tt_gi, tt_pi, tt_gl, tt_pl, tt_ia, tt_st, tt_ir, tt_zr, tt_lr, tt_vr, tt_cv, tt_cs, tt_max, tt_min, tt_rem, tt_xor, tt_len, tt_cp, tt_thr, tt_xv, tt_xs, k_sv, k_cl, k_kz, List.getElem?_cons_zero, List.getElem?_cons_succ, List.drop_succ_cons, List.drop_zero, List.take_succ_cons, List.take_zero, List.reverse_cons, List.reverse_nil, List.nil_append, List.cons_append, List.length_cons, List.length_nil, Option.toList_some, Option.toList_none, Nat.reduceAdd, Nat.reduceLeDiff, true_and, and_true, sp_I, sp_II, sp_III, sp_J, sp_JI, sp_JJ, sp_R2, sp_R5I, sp_V]
    refine ⟨fun c2 => ?_, fun c2 => ⟨fun c3 => ?_, fun c3 => ?_⟩⟩
    · rw [if_neg (by simp [c2])] at hd
      have := hk (n, j + 1, l) ⟨by dsimp only; omega, hd⟩ (by dsimp only; omega)
      simpa only [nI_succ] using this
    · simp only [Bool.not_eq_false] at c2
      rw [if_pos c2, if_pos c3] at hd
      rw [hd]
    · simp only [Bool.not_eq_false] at c2
      rw [if_pos c2, if_neg c3] at hd
      have := hk (n, j + 1, l + -1) ⟨by dsimp only; omega, hd⟩ (by dsimp only; omega)
      simpa only [nI_succ] using this
theorem pr_child (ad : Nat → Nat) (x0 x1 x2 : Int32) (M : Mm) (r : Rs) (h : fr_child x0 x1 x2 M = some r) : T_X4_child_0 ad r (sp_III fr_isChild) (sp_I fr_isJoined) (sp_I fr_isMember) (sp_I fr_isStripe) [some (.ref (ad 6)), some (.int x0), some (.int x1), some (.int x2), none, none, none] [] M := by
  unfold fr_child at h
  by_cases h1 : x0 = 100
  · subst h1
    cases hs : bS x1 <;> by_cases h2 : 0 ≤ x2 <;> simp only [h2, hs, kc_43, kc_1, kc_42, kc_L, z_10, z_20, z_30, z_00, bI_t, bI_f, if_true, if_false, Bool.false_eq_true, Bool.true_eq_false, not_true_eq_false, not_false_eq_true, false_implies, true_implies, and_self, true_and, and_true, and_false, false_and, reduceCtorEq] at h <;>
      first | (have h0 := (qG_0 h).2) | have h0 := qG_1 h | have h0 := qG_2 h
    all_goals
      subst h0
      simp only [T_X4_child_0, T_X4_child_13, T_X4_child_24, T_X4_child_25, T_X4_child_59, T_X4_child_64, tt_c, tt_lc, tt_il, tt_ll, tt_al, tt_is, tt_lsv, tt_as, tt_inc, tt_add, tt_sub, tt_mul, tt_and, tt_ladd, tt_lmul, tt_i2l, tt_lcmp, tt_dupr, tt_dup2, tt_eq0, tt_lt0, tt_le0, tt_ge0, tt_gt0, tt_eq2, tt_lt2, tt_ge2, tt_gt2, tt_le2, tt_gr, tt_gi, tt_pi, tt_gl, tt_pl, tt_ia, tt_st, tt_ir, tt_zr, tt_lr, tt_vr, tt_cv, tt_cs, tt_max, tt_min, tt_rem, tt_xor, tt_len, tt_cp, tt_thr, tt_xv, tt_xs, k_sv, k_cl, k_kz, List.getElem?_cons_zero, List.getElem?_cons_succ, List.drop_succ_cons, List.drop_zero, List.take_succ_cons, List.take_zero, List.reverse_cons, List.reverse_nil, List.nil_append, List.cons_append, List.length_cons, List.length_nil, Option.toList_some, Option.toList_none, Nat.reduceAdd, Nat.reduceLeDiff, true_and, and_true, sp_I, sp_II, sp_III, sp_J, sp_JI, sp_JJ, sp_R2, sp_R5I, sp_V, kc_43, kc_1, kc_42, kc_L, z_10, z_20, z_30, z_00, bI_t, bI_f, if_true, if_false, Bool.false_eq_true, Bool.true_eq_false, not_true_eq_false, not_false_eq_true, false_implies, true_implies, and_self, true_and, and_true, and_false, false_and, reduceCtorEq, fr_isJoined, fr_isMember, fr_isStripe, bM_100, h2, hs, Bool.not_true, Bool.not_false, kc_def, true_or, or_true, false_or, or_false]
    exact pr_child_in ad 100 x1 x2 (kc M 0) _ hs
  · cases hb : bM x0 <;> cases hs : bS x1 <;> by_cases h2 : 0 ≤ x2 <;> cases hj : jR (M.1 2) x0 <;> simp only [h1, h2, hb, hs, hj, kc_43, kc_1, kc_42, kc_L, z_10, z_20, z_30, z_00, bI_t, bI_f, if_true, if_false, Bool.false_eq_true, Bool.true_eq_false, not_true_eq_false, not_false_eq_true, false_implies, true_implies, and_self, true_and, and_true, and_false, false_and, reduceCtorEq] at h <;>
      first | (have h0 := (qG_0 h).2) | have h0 := qG_1 h | have h0 := qG_2 h | have h0 := qG_3 h
    all_goals
      subst h0
      simp only [T_X4_child_0, T_X4_child_13, T_X4_child_24, T_X4_child_25, T_X4_child_59, T_X4_child_64, tt_c, tt_lc, tt_il, tt_ll, tt_al, tt_is, tt_lsv, tt_as, tt_inc, tt_add, tt_sub, tt_mul, tt_and, tt_ladd, tt_lmul, tt_i2l, tt_lcmp, tt_dupr, tt_dup2, tt_eq0, tt_lt0, tt_le0, tt_ge0, tt_gt0, tt_eq2, tt_lt2, tt_ge2, tt_gt2, tt_le2, tt_gr, tt_gi, tt_pi, tt_gl, tt_pl, tt_ia, tt_st, tt_ir, tt_zr, tt_lr, tt_vr, tt_cv, tt_cs, tt_max, tt_min, tt_rem, tt_xor, tt_len, tt_cp, tt_thr, tt_xv, tt_xs, k_sv, k_cl, k_kz, List.getElem?_cons_zero, List.getElem?_cons_succ, List.drop_succ_cons, List.drop_zero, List.take_succ_cons, List.take_zero, List.reverse_cons, List.reverse_nil, List.nil_append, List.cons_append, List.length_cons, List.length_nil, Option.toList_some, Option.toList_none, Nat.reduceAdd, Nat.reduceLeDiff, true_and, and_true, sp_I, sp_II, sp_III, sp_J, sp_JI, sp_JJ, sp_R2, sp_R5I, sp_V, kc_43, kc_1, kc_42, kc_L, z_10, z_20, z_30, z_00, bI_t, bI_f, if_true, if_false, Bool.false_eq_true, Bool.true_eq_false, not_true_eq_false, not_false_eq_true, false_implies, true_implies, and_self, true_and, and_true, and_false, false_and, reduceCtorEq, fr_isJoined, fr_isMember, fr_isStripe, h1, hb, h2, hs, hj, Bool.not_true, Bool.not_false, kc_def, true_or, or_true, false_or, or_false]
    exact pr_child_in ad x0 x1 x2 (kc M 0) _ hs
def hoF (m : Re) (x : Int32) (y : Nat) : Int32 := if nI y = x then 0 else if jR m (nI y) = false then 0 else if ¬ oR m (nI y) 3 = 0 then 0 else if prR m (nI y) (-1) ≤ prR m (nI y) x then 0 else 1
def hoR (m : Re) (x : Int32) : Int32 := if oR m x 3 = 1 then 0 else sumTo (hoF m x) 32
def fr_harmOf (x : Int32) (M : Mm) : Option Rs := if bM x = false ∧ wA (M.1 2) = true then some (.inl (some (.int (hoR (M.1 2) x)), M)) else none
theorem bM_ne100 {x : Int32} (h : bM x = false) : ¬ x = 100 := by
  rintro rfl
  revert h
  decide
theorem pr_harmOf (ad : Nat → Nat) (x0 : Int32) (M : Mm) (r : Rs) (h : fr_harmOf x0 M = some r) : T_X4_harmOf_0 ad r (sp_I fr_isJoined) (sp_II fr_of) (sp_II fr_piecesOf) [some (.ref (ad 6)), some (.int x0), none, none, none] [] M := by
  unfold fr_harmOf at h
  split at h
  · next hg =>
    cases h
    obtain ⟨hx, hw⟩ := hg
    simp only [T_X4_harmOf_0, tt_c, tt_lc, tt_il, tt_ll, tt_al, tt_is, tt_lsv, tt_as, tt_inc, tt_add, tt_sub, tt_mul, tt_and, tt_ladd, tt_lmul, tt_i2l, tt_lcmp, tt_dupr, tt_dup2, tt_eq0, tt_lt0, tt_le0, tt_ge0, tt_gt0, tt_eq2, tt_lt2, tt_ge2, tt_gt2, tt_le2, tt_gr, tt_gi, tt_pi, tt_gl, tt_pl, tt_ia, tt_st, tt_ir, tt_zr, tt_lr, tt_vr, tt_cv, tt_cs, tt_max, tt_min, tt_rem, tt_xor, tt_len, tt_cp, tt_thr, tt_xv, tt_xs, k_sv, k_cl, k_kz, List.getElem?_cons_zero, List.getElem?_cons_succ, List.drop_succ_cons, List.drop_zero, List.take_succ_cons, List.take_zero, List.reverse_cons, List.reverse_nil, List.nil_append, List.cons_append, List.length_cons, List.length_nil, Option.toList_some, Option.toList_none, Nat.reduceAdd, Nat.reduceLeDiff, true_and, and_true, sp_I, sp_II, sp_III, sp_J, sp_JI, sp_JJ, sp_R2, sp_R5I, sp_V, fr_of, hx, bW_3, and_self, if_true]
    refine ⟨fun c0 => ?_, fun c0 => ?_⟩
    · rw [hoR, if_pos c0]
    · rw [hoR, if_neg c0]
      refine lp_of (σ := Nat × Option Value) (fun q => q.1 ≤ 32) (fun q => [some (.ref (ad 6)), some (.int x0), some (.int (sumTo (hoF (M.1 2) x0) q.1)), some (.int (nI q.1)), q.2]) (fun _ => M) (fun q => 32 - q.1) ?_ (0, none) (by dsimp only; omega)
      rintro k ⟨j, o⟩ hj hk
      dsimp only at hj
      simp only [T_X4_harmOf_77, T_X4_harmOf_76, T_X4_harmOf_49, T_X4_harmOf_48, T_X4_harmOf_16, T_X4_harmOf_0, tt_c, tt_lc, tt_il, tt_ll, tt_al, tt_is, tt_lsv, tt_as, tt_inc, tt_add, tt_sub, tt_mul, tt_and, tt_ladd, tt_lmul, tt_i2l, tt_lcmp, tt_dupr, tt_dup2, tt_eq0, tt_lt0, tt_le0, tt_ge0, tt_gt0, tt_eq2, tt_lt2, tt_ge2, tt_gt2, tt_le2, tt_gr, tt_gi, tt_pi, tt_gl, tt_pl, tt_ia, tt_st, tt_ir, tt_zr, tt_lr, tt_vr, tt_cv, tt_cs, tt_max, tt_min, tt_rem, tt_xor, tt_len, tt_cp, tt_thr, tt_xv, tt_xs, k_sv, k_cl, k_kz, List.getElem?_cons_zero, List.getElem?_cons_succ, List.drop_succ_cons, List.drop_zero, List.take_succ_cons, List.take_zero, List.reverse_cons, List.reverse_nil, List.nil_append, List.cons_append, List.length_cons, List.length_nil, Option.toList_some, Option.toList_none, Nat.reduceAdd, Nat.reduceLeDiff, true_and, and_true, sp_I, sp_II, sp_III, sp_J, sp_JI, sp_JJ, sp_R2, sp_R5I, sp_V, ge32 hj]
      refine ⟨fun c1 => ?_, fun c1 => ?_⟩
      · subst c1
        rfl
      · have hM := bM_n (show j < 32 by omega)
        have hk1 : ∀ o', k [some (.ref (ad 6)), some (.int x0), some (.int (sumTo (hoF (M.1 2) x0) j + hoF (M.1 2) x0 j)), some (.int (nI j + 1)), o'] [] M := by
          intro o'
          have := hk (j + 1, o') (by dsimp only; omega) (by dsimp only; omega)
          simpa only [sumTo, nI_succ] using this
        simp only [hoF] at hk1
        refine ⟨fun c2 => ?_, fun c2 => ?_⟩
        · simp only [if_pos c2] at hk1
          simp only [z_00, true_implies, not_true_eq_false, false_implies, and_true]
          exact hk1 _
        · simp only [if_neg c2] at hk1
          simp only [fr_isJoined, hM, if_true, bI_0, tt_c, tt_lc, tt_il, tt_ll, tt_al, tt_is, tt_lsv, tt_as, tt_inc, tt_add, tt_sub, tt_mul, tt_and, tt_ladd, tt_lmul, tt_i2l, tt_lcmp, tt_dupr, tt_dup2, tt_eq0, tt_lt0, tt_le0, tt_ge0, tt_gt0, tt_eq2, tt_lt2, tt_ge2, tt_gt2, tt_le2, tt_gr, tt_gi, tt_pi, tt_gl, tt_pl, tt_ia, tt_st, tt_ir, tt_zr, tt_lr, tt_vr, tt_cv, tt_cs, tt_max, tt_min, tt_rem, tt_xor, tt_len, tt_cp, tt_thr, tt_xv, tt_xs, k_sv, k_cl, k_kz, List.getElem?_cons_zero, List.getElem?_cons_succ, List.drop_succ_cons, List.drop_zero, List.take_succ_cons, List.take_zero, List.reverse_cons, List.reverse_nil, List.nil_append, List.cons_append, List.length_cons, List.length_nil, Option.toList_some, Option.toList_none, Nat.reduceAdd, Nat.reduceLeDiff, true_and, and_true, sp_I, sp_II, sp_III, sp_J, sp_JI, sp_JJ, sp_R2, sp_R5I, sp_V, z_00, z_10, true_implies, not_true_eq_false, not_false_eq_true, false_implies, and_true, true_and]
          refine ⟨fun c3 => ?_, fun c3 => ?_⟩
          · simp only [if_pos c3] at hk1
            exact hk1 _
          · simp only [if_neg c3] at hk1
            simp only [Bool.not_eq_false] at c3
            have hok := wA_okA hw (show j < 32 by omega) c3
            simp only [fr_of, hM, bW_3, and_self, if_true, tt_c, tt_lc, tt_il, tt_ll, tt_al, tt_is, tt_lsv, tt_as, tt_inc, tt_add, tt_sub, tt_mul, tt_and, tt_ladd, tt_lmul, tt_i2l, tt_lcmp, tt_dupr, tt_dup2, tt_eq0, tt_lt0, tt_le0, tt_ge0, tt_gt0, tt_eq2, tt_lt2, tt_ge2, tt_gt2, tt_le2, tt_gr, tt_gi, tt_pi, tt_gl, tt_pl, tt_ia, tt_st, tt_ir, tt_zr, tt_lr, tt_vr, tt_cv, tt_cs, tt_max, tt_min, tt_rem, tt_xor, tt_len, tt_cp, tt_thr, tt_xv, tt_xs, k_sv, k_cl, k_kz, List.getElem?_cons_zero, List.getElem?_cons_succ, List.drop_succ_cons, List.drop_zero, List.take_succ_cons, List.take_zero, List.reverse_cons, List.reverse_nil, List.nil_append, List.cons_append, List.length_cons, List.length_nil, Option.toList_some, Option.toList_none, Nat.reduceAdd, Nat.reduceLeDiff, true_and, and_true, sp_I, sp_II, sp_III, sp_J, sp_JI, sp_JJ, sp_R2, sp_R5I, sp_V, z_00, z_10, true_implies, not_true_eq_false, not_false_eq_true, false_implies, and_true, true_and]
            refine ⟨fun c4 => ?_, fun c4 => ?_⟩
            · simp only [c4, not_true_eq_false, if_false] at hk1
              simp only [fr_piecesOf, hok, bM_ne100 hx, show ¬ (-1 : Int32) = 100 by decide, not_false_eq_true, and_self, if_true, tt_c, tt_lc, tt_il, tt_ll, tt_al, tt_is, tt_lsv, tt_as, tt_inc, tt_add, tt_sub, tt_mul, tt_and, tt_ladd, tt_lmul, tt_i2l, tt_lcmp, tt_dupr, tt_dup2, tt_eq0, tt_lt0, tt_le0, tt_ge0, tt_gt0, tt_eq2, tt_lt2, tt_ge2, tt_gt2, tt_le2, tt_gr, tt_gi, tt_pi, tt_gl, tt_pl, tt_ia, tt_st, tt_ir, tt_zr, tt_lr, tt_vr, tt_cv, tt_cs, tt_max, tt_min, tt_rem, tt_xor, tt_len, tt_cp, tt_thr, tt_xv, tt_xs, k_sv, k_cl, k_kz, List.getElem?_cons_zero, List.getElem?_cons_succ, List.drop_succ_cons, List.drop_zero, List.take_succ_cons, List.take_zero, List.reverse_cons, List.reverse_nil, List.nil_append, List.cons_append, List.length_cons, List.length_nil, Option.toList_some, Option.toList_none, Nat.reduceAdd, Nat.reduceLeDiff, true_and, and_true, sp_I, sp_II, sp_III, sp_J, sp_JI, sp_JJ, sp_R2, sp_R5I, sp_V]
              refine ⟨fun c5 => ?_, fun c5 => ?_⟩
              · simp only [if_pos c5] at hk1
                exact hk1 _
              · simp only [if_neg c5] at hk1
                exact hk1 _
            · simp only [c4, not_false_eq_true, if_true] at hk1
              exact hk1 _
  · cases h
def cdM (m : Re) (x : Int32) : Int32 := if bM x = true then 1 else if jR m x = true then 0 else 2
def fr_harm (x : Int32) (M : Mm) : Option Rs := qG (cdM (M.1 2) x) (wA (M.1 2)) (hoR (M.1 2) x) M
theorem pr_harm (ad : Nat → Nat) (x0 : Int32) (M : Mm) (r : Rs) (h : fr_harm x0 M = some r) : T_X4_harm_0 ad r (sp_I fr_harmOf) (sp_I fr_isJoined) (sp_I fr_isMember) [some (.ref (ad 6)), some (.int x0)] [] M := by
  unfold fr_harm cdM at h
  cases hb : bM x0 <;> cases hj : jR (M.1 2) x0 <;> simp only [hb, hj, kc_43, kc_1, kc_42, kc_L, z_10, z_20, z_30, z_00, bI_t, bI_f, if_true, if_false, Bool.false_eq_true, Bool.true_eq_false, not_true_eq_false, not_false_eq_true, false_implies, true_implies, and_self, true_and, and_true, and_false, false_and, reduceCtorEq] at h <;>
    first | (have hg := (qG_0 h).1; have h0 := (qG_0 h).2) | have h0 := qG_1 h | have h0 := qG_2 h
  all_goals
    subst h0
    simp only [T_X4_harm_44, T_X4_harm_25, T_X4_harm_0, tt_c, tt_lc, tt_il, tt_ll, tt_al, tt_is, tt_lsv, tt_as, tt_inc, tt_add, tt_sub, tt_mul, tt_and, tt_ladd, tt_lmul, tt_i2l, tt_lcmp, tt_dupr, tt_dup2, tt_eq0, tt_lt0, tt_le0, tt_ge0, tt_gt0, tt_eq2, tt_lt2, tt_ge2, tt_gt2, tt_le2, tt_gr, tt_gi, tt_pi, tt_gl, tt_pl, tt_ia, tt_st, tt_ir, tt_zr, tt_lr, tt_vr, tt_cv, tt_cs, tt_max, tt_min, tt_rem, tt_xor, tt_len, tt_cp, tt_thr, tt_xv, tt_xs, k_sv, k_cl, k_kz, List.getElem?_cons_zero, List.getElem?_cons_succ, List.drop_succ_cons, List.drop_zero, List.take_succ_cons, List.take_zero, List.reverse_cons, List.reverse_nil, List.nil_append, List.cons_append, List.length_cons, List.length_nil, Option.toList_some, Option.toList_none, Nat.reduceAdd, Nat.reduceLeDiff, true_and, and_true, sp_I, sp_II, sp_III, sp_J, sp_JI, sp_JJ, sp_R2, sp_R5I, sp_V, kc_43, kc_1, kc_42, kc_L, z_10, z_20, z_30, z_00, bI_t, bI_f, if_true, if_false, Bool.false_eq_true, Bool.true_eq_false, not_true_eq_false, not_false_eq_true, false_implies, true_implies, and_self, true_and, and_true, and_false, false_and, reduceCtorEq, fr_isJoined, fr_isMember, fr_harmOf, hb, hj, Bool.not_true, Bool.not_false, kc_def]
  simp only [hg, if_true, tt_c, tt_lc, tt_il, tt_ll, tt_al, tt_is, tt_lsv, tt_as, tt_inc, tt_add, tt_sub, tt_mul, tt_and, tt_ladd, tt_lmul, tt_i2l, tt_lcmp, tt_dupr, tt_dup2, tt_eq0, tt_lt0, tt_le0, tt_ge0, tt_gt0, tt_eq2, tt_lt2, tt_ge2, tt_gt2, tt_le2, tt_gr, tt_gi, tt_pi, tt_gl, tt_pl, tt_ia, tt_st, tt_ir, tt_zr, tt_lr, tt_vr, tt_cv, tt_cs, tt_max, tt_min, tt_rem, tt_xor, tt_len, tt_cp, tt_thr, tt_xv, tt_xs, k_sv, k_cl, k_kz, List.getElem?_cons_zero, List.getElem?_cons_succ, List.drop_succ_cons, List.drop_zero, List.take_succ_cons, List.take_zero, List.reverse_cons, List.reverse_nil, List.nil_append, List.cons_append, List.length_cons, List.length_nil, Option.toList_some, Option.toList_none, Nat.reduceAdd, Nat.reduceLeDiff, true_and, and_true, sp_I, sp_II, sp_III, sp_J, sp_JI, sp_JJ, sp_R2, sp_R5I, sp_V]
def fr_pieces (x : Int32) (M : Mm) : Option Rs := qG (cdM (M.1 2) x) (okA (M.1 2) x) (prR (M.1 2) x (-1)) M
theorem pr_pieces (ad : Nat → Nat) (x0 : Int32) (M : Mm) (r : Rs) (h : fr_pieces x0 M = some r) : T_X4_pieces_0 ad r (sp_I fr_isJoined) (sp_I fr_isMember) (sp_II fr_piecesOf) [some (.ref (ad 6)), some (.int x0)] [] M := by
  unfold fr_pieces cdM at h
  cases hb : bM x0 <;> cases hj : jR (M.1 2) x0 <;> simp only [hb, hj, kc_43, kc_1, kc_42, kc_L, z_10, z_20, z_30, z_00, bI_t, bI_f, if_true, if_false, Bool.false_eq_true, Bool.true_eq_false, not_true_eq_false, not_false_eq_true, false_implies, true_implies, and_self, true_and, and_true, and_false, false_and, reduceCtorEq] at h <;>
    first | (have hg := (qG_0 h).1; have h0 := (qG_0 h).2) | have h0 := qG_1 h | have h0 := qG_2 h
  all_goals
    subst h0
    simp only [T_X4_pieces_45, T_X4_pieces_25, T_X4_pieces_0, tt_c, tt_lc, tt_il, tt_ll, tt_al, tt_is, tt_lsv, tt_as, tt_inc, tt_add, tt_sub, tt_mul, tt_and, tt_ladd, tt_lmul, tt_i2l, tt_lcmp, tt_dupr, tt_dup2, tt_eq0, tt_lt0, tt_le0, tt_ge0, tt_gt0, tt_eq2, tt_lt2, tt_ge2, tt_gt2, tt_le2, tt_gr, tt_gi, tt_pi, tt_gl, tt_pl, tt_ia, tt_st, tt_ir, tt_zr, tt_lr, tt_vr, tt_cv, tt_cs, tt_max, tt_min, tt_rem, tt_xor, tt_len, tt_cp, tt_thr, tt_xv, tt_xs, k_sv, k_cl, k_kz, List.getElem?_cons_zero, List.getElem?_cons_succ, List.drop_succ_cons, List.drop_zero, List.take_succ_cons, List.take_zero, List.reverse_cons, List.reverse_nil, List.nil_append, List.cons_append, List.length_cons, List.length_nil, Option.toList_some, Option.toList_none, Nat.reduceAdd, Nat.reduceLeDiff, true_and, and_true, sp_I, sp_II, sp_III, sp_J, sp_JI, sp_JJ, sp_R2, sp_R5I, sp_V, kc_43, kc_1, kc_42, kc_L, z_10, z_20, z_30, z_00, bI_t, bI_f, if_true, if_false, Bool.false_eq_true, Bool.true_eq_false, not_true_eq_false, not_false_eq_true, false_implies, true_implies, and_self, true_and, and_true, and_false, false_and, reduceCtorEq, fr_isJoined, fr_isMember, fr_piecesOf, hb, hj, Bool.not_true, Bool.not_false, kc_def]
  simp only [hg, show ¬ (-1 : Int32) = 100 by decide, not_false_eq_true, and_self, if_true, tt_c, tt_lc, tt_il, tt_ll, tt_al, tt_is, tt_lsv, tt_as, tt_inc, tt_add, tt_sub, tt_mul, tt_and, tt_ladd, tt_lmul, tt_i2l, tt_lcmp, tt_dupr, tt_dup2, tt_eq0, tt_lt0, tt_le0, tt_ge0, tt_gt0, tt_eq2, tt_lt2, tt_ge2, tt_gt2, tt_le2, tt_gr, tt_gi, tt_pi, tt_gl, tt_pl, tt_ia, tt_st, tt_ir, tt_zr, tt_lr, tt_vr, tt_cv, tt_cs, tt_max, tt_min, tt_rem, tt_xor, tt_len, tt_cp, tt_thr, tt_xv, tt_xs, k_sv, k_cl, k_kz, List.getElem?_cons_zero, List.getElem?_cons_succ, List.drop_succ_cons, List.drop_zero, List.take_succ_cons, List.take_zero, List.reverse_cons, List.reverse_nil, List.nil_append, List.cons_append, List.length_cons, List.length_nil, Option.toList_some, Option.toList_none, Nat.reduceAdd, Nat.reduceLeDiff, true_and, and_true, sp_I, sp_II, sp_III, sp_J, sp_JI, sp_JJ, sp_R2, sp_R5I, sp_V]
def snF (m : Re) (s : Int32) (x : Nat) : Int32 := if jR m (nI x) = false then 0 else if dR m (nI x) s = -1 then 0 else 1
def dpF (m : Re) (s : Int32) (x : Nat) (l : Int32) : Int32 := if jR m (nI x) = false then l else if dR m (nI x) s ≤ l then l else dR m (nI x) s
def roF (m : Re) (s : Int32) (x : Nat) : Int32 := if jR m (nI x) = false then 0 else if rmR m (nI x) s = false then 0 else 1
def nnF (m : Re) (s : Int32) (x : Nat) : Int32 := if jR m (nI x) = false then 0 else if ciR m (nI x) s ≤ 0 then 0 else 1
def strR (m : Re) (s w : Int32) : Int32 := if w = 0 then sumTo (snF m s) 32 else if w = 1 then ciR m (-1) s else if w = 2 then foldTo (dpF m s) 0 32 else if w = 3 then ciR m 100 s else if w = 4 then sumTo (roF m s) 32 else sumTo (nnF m s) 32
def fr_stripeOf (s w : Int32) (M : Mm) : Option Rs := if bS s = false ∧ bR w 0 5 = false ∧ wfR (M.1 2) s = true then some (.inl (some (.int (strR (M.1 2) s w)), M)) else none
theorem pr_stripeOf (ad : Nat → Nat) (x0 x1 : Int32) (M : Mm) (r : Rs) (h : fr_stripeOf x0 x1 M = some r) : T_X4_stripeOf_0 ad r (sp_II fr_childrenIn) (sp_II fr_depthOf) (sp_I fr_isJoined) (sp_II fr_isRoomy) (sp_I fr_orphans) [some (.ref (ad 6)), some (.int x0), some (.int x1), none, none, none, none, none, none] [] M := by
  unfold fr_stripeOf at h
  split at h
  · next hg =>
    cases h
    obtain ⟨hs, hr, hw⟩ := hg
    simp only [T_X4_stripeOf_0, tt_c, tt_lc, tt_il, tt_ll, tt_al, tt_is, tt_lsv, tt_as, tt_inc, tt_add, tt_sub, tt_mul, tt_and, tt_ladd, tt_lmul, tt_i2l, tt_lcmp, tt_dupr, tt_dup2, tt_eq0, tt_lt0, tt_le0, tt_ge0, tt_gt0, tt_eq2, tt_lt2, tt_ge2, tt_gt2, tt_le2, tt_gr, tt_gi, tt_pi, tt_gl, tt_pl, tt_ia, tt_st, tt_ir, tt_zr, tt_lr, tt_vr, tt_cv, tt_cs, tt_max, tt_min, tt_rem, tt_xor, tt_len, tt_cp, tt_thr, tt_xv, tt_xs, k_sv, k_cl, k_kz, List.getElem?_cons_zero, List.getElem?_cons_succ, List.drop_succ_cons, List.drop_zero, List.take_succ_cons, List.take_zero, List.reverse_cons, List.reverse_nil, List.nil_append, List.cons_append, List.length_cons, List.length_nil, Option.toList_some, Option.toList_none, Nat.reduceAdd, Nat.reduceLeDiff, true_and, and_true, sp_I, sp_II, sp_III, sp_J, sp_JI, sp_JJ, sp_R2, sp_R5I, sp_V]
    refine lp_of (σ := Nat × Option Value) (fun q => q.1 ≤ 32) (fun q => [some (.ref (ad 6)), some (.int x0), some (.int x1), some (.int (sumTo (snF (M.1 2) x0) q.1)), some (.int (foldTo (dpF (M.1 2) x0) 0 q.1)), some (.int (sumTo (roF (M.1 2) x0) q.1)), some (.int (sumTo (nnF (M.1 2) x0) q.1)), some (.int (nI q.1)), q.2]) (fun _ => M) (fun q => 32 - q.1) ?_ (0, none) (by dsimp only; omega)
    rintro k ⟨j, o⟩ hj hk
    dsimp only at hj
    simp only [T_X4_stripeOf_14, T_X4_stripeOf_109, T_X4_stripeOf_51, tt_c, tt_lc, tt_il, tt_ll, tt_al, tt_is, tt_lsv, tt_as, tt_inc, tt_add, tt_sub, tt_mul, tt_and, tt_ladd, tt_lmul, tt_i2l, tt_lcmp, tt_dupr, tt_dup2, tt_eq0, tt_lt0, tt_le0, tt_ge0, tt_gt0, tt_eq2, tt_lt2, tt_ge2, tt_gt2, tt_le2, tt_gr, tt_gi, tt_pi, tt_gl, tt_pl, tt_ia, tt_st, tt_ir, tt_zr, tt_lr, tt_vr, tt_cv, tt_cs, tt_max, tt_min, tt_rem, tt_xor, tt_len, tt_cp, tt_thr, tt_xv, tt_xs, k_sv, k_cl, k_kz, List.getElem?_cons_zero, List.getElem?_cons_succ, List.drop_succ_cons, List.drop_zero, List.take_succ_cons, List.take_zero, List.reverse_cons, List.reverse_nil, List.nil_append, List.cons_append, List.length_cons, List.length_nil, Option.toList_some, Option.toList_none, Nat.reduceAdd, Nat.reduceLeDiff, true_and, and_true, sp_I, sp_II, sp_III, sp_J, sp_JI, sp_JJ, sp_R2, sp_R5I, sp_V, ge32 hj]
    refine ⟨fun c1 => ?_, fun c1 => ?_⟩
    · subst c1
      obtain ⟨i, hi, rfl⟩ := bR_of (n := 5) (by omega) hr
      have h5 : i = 0 ∨ i = 1 ∨ i = 2 ∨ i = 3 ∨ i = 4 ∨ i = 5 := by omega
      rcases h5 with rfl | rfl | rfl | rfl | rfl | rfl
      · refine tt_sw_at 0 (by decide) rfl ?_
        simp only [tt_c, tt_lc, tt_il, tt_ll, tt_al, tt_is, tt_lsv, tt_as, tt_inc, tt_add, tt_sub, tt_mul, tt_and, tt_ladd, tt_lmul, tt_i2l, tt_lcmp, tt_dupr, tt_dup2, tt_eq0, tt_lt0, tt_le0, tt_ge0, tt_gt0, tt_eq2, tt_lt2, tt_ge2, tt_gt2, tt_le2, tt_gr, tt_gi, tt_pi, tt_gl, tt_pl, tt_ia, tt_st, tt_ir, tt_zr, tt_lr, tt_vr, tt_cv, tt_cs, tt_max, tt_min, tt_rem, tt_xor, tt_len, tt_cp, tt_thr, tt_xv, tt_xs, k_sv, k_cl, k_kz, List.getElem?_cons_zero, List.getElem?_cons_succ, List.drop_succ_cons, List.drop_zero, List.take_succ_cons, List.take_zero, List.reverse_cons, List.reverse_nil, List.nil_append, List.cons_append, List.length_cons, List.length_nil, Option.toList_some, Option.toList_none, Nat.reduceAdd, Nat.reduceLeDiff, true_and, and_true, sp_I, sp_II, sp_III, sp_J, sp_JI, sp_JJ, sp_R2, sp_R5I, sp_V]
        rw [strR, if_pos (by decide)]
      · refine tt_sw_at 1 (by decide) rfl ?_
        simp only [tt_c, tt_lc, tt_il, tt_ll, tt_al, tt_is, tt_lsv, tt_as, tt_inc, tt_add, tt_sub, tt_mul, tt_and, tt_ladd, tt_lmul, tt_i2l, tt_lcmp, tt_dupr, tt_dup2, tt_eq0, tt_lt0, tt_le0, tt_ge0, tt_gt0, tt_eq2, tt_lt2, tt_ge2, tt_gt2, tt_le2, tt_gr, tt_gi, tt_pi, tt_gl, tt_pl, tt_ia, tt_st, tt_ir, tt_zr, tt_lr, tt_vr, tt_cv, tt_cs, tt_max, tt_min, tt_rem, tt_xor, tt_len, tt_cp, tt_thr, tt_xv, tt_xs, k_sv, k_cl, k_kz, List.getElem?_cons_zero, List.getElem?_cons_succ, List.drop_succ_cons, List.drop_zero, List.take_succ_cons, List.take_zero, List.reverse_cons, List.reverse_nil, List.nil_append, List.cons_append, List.length_cons, List.length_nil, Option.toList_some, Option.toList_none, Nat.reduceAdd, Nat.reduceLeDiff, true_and, and_true, sp_I, sp_II, sp_III, sp_J, sp_JI, sp_JJ, sp_R2, sp_R5I, sp_V, fr_orphans, fr_childrenIn, hs, if_true]
        rw [strR, if_neg (by decide), if_pos (by decide)]
      · refine tt_sw_at 2 (by decide) rfl ?_
        simp only [tt_c, tt_lc, tt_il, tt_ll, tt_al, tt_is, tt_lsv, tt_as, tt_inc, tt_add, tt_sub, tt_mul, tt_and, tt_ladd, tt_lmul, tt_i2l, tt_lcmp, tt_dupr, tt_dup2, tt_eq0, tt_lt0, tt_le0, tt_ge0, tt_gt0, tt_eq2, tt_lt2, tt_ge2, tt_gt2, tt_le2, tt_gr, tt_gi, tt_pi, tt_gl, tt_pl, tt_ia, tt_st, tt_ir, tt_zr, tt_lr, tt_vr, tt_cv, tt_cs, tt_max, tt_min, tt_rem, tt_xor, tt_len, tt_cp, tt_thr, tt_xv, tt_xs, k_sv, k_cl, k_kz, List.getElem?_cons_zero, List.getElem?_cons_succ, List.drop_succ_cons, List.drop_zero, List.take_succ_cons, List.take_zero, List.reverse_cons, List.reverse_nil, List.nil_append, List.cons_append, List.length_cons, List.length_nil, Option.toList_some, Option.toList_none, Nat.reduceAdd, Nat.reduceLeDiff, true_and, and_true, sp_I, sp_II, sp_III, sp_J, sp_JI, sp_JJ, sp_R2, sp_R5I, sp_V]
        rw [strR, if_neg (by decide), if_neg (by decide), if_pos (by decide)]
      · refine tt_sw_at 3 (by decide) rfl ?_
        simp only [tt_c, tt_lc, tt_il, tt_ll, tt_al, tt_is, tt_lsv, tt_as, tt_inc, tt_add, tt_sub, tt_mul, tt_and, tt_ladd, tt_lmul, tt_i2l, tt_lcmp, tt_dupr, tt_dup2, tt_eq0, tt_lt0, tt_le0, tt_ge0, tt_gt0, tt_eq2, tt_lt2, tt_ge2, tt_gt2, tt_le2, tt_gr, tt_gi, tt_pi, tt_gl, tt_pl, tt_ia, tt_st, tt_ir, tt_zr, tt_lr, tt_vr, tt_cv, tt_cs, tt_max, tt_min, tt_rem, tt_xor, tt_len, tt_cp, tt_thr, tt_xv, tt_xs, k_sv, k_cl, k_kz, List.getElem?_cons_zero, List.getElem?_cons_succ, List.drop_succ_cons, List.drop_zero, List.take_succ_cons, List.take_zero, List.reverse_cons, List.reverse_nil, List.nil_append, List.cons_append, List.length_cons, List.length_nil, Option.toList_some, Option.toList_none, Nat.reduceAdd, Nat.reduceLeDiff, true_and, and_true, sp_I, sp_II, sp_III, sp_J, sp_JI, sp_JJ, sp_R2, sp_R5I, sp_V, fr_childrenIn, hs, if_true]
        rw [strR, if_neg (by decide), if_neg (by decide), if_neg (by decide), if_pos (by decide)]
      · refine tt_sw_at 4 (by decide) rfl ?_
        simp only [tt_c, tt_lc, tt_il, tt_ll, tt_al, tt_is, tt_lsv, tt_as, tt_inc, tt_add, tt_sub, tt_mul, tt_and, tt_ladd, tt_lmul, tt_i2l, tt_lcmp, tt_dupr, tt_dup2, tt_eq0, tt_lt0, tt_le0, tt_ge0, tt_gt0, tt_eq2, tt_lt2, tt_ge2, tt_gt2, tt_le2, tt_gr, tt_gi, tt_pi, tt_gl, tt_pl, tt_ia, tt_st, tt_ir, tt_zr, tt_lr, tt_vr, tt_cv, tt_cs, tt_max, tt_min, tt_rem, tt_xor, tt_len, tt_cp, tt_thr, tt_xv, tt_xs, k_sv, k_cl, k_kz, List.getElem?_cons_zero, List.getElem?_cons_succ, List.drop_succ_cons, List.drop_zero, List.take_succ_cons, List.take_zero, List.reverse_cons, List.reverse_nil, List.nil_append, List.cons_append, List.length_cons, List.length_nil, Option.toList_some, Option.toList_none, Nat.reduceAdd, Nat.reduceLeDiff, true_and, and_true, sp_I, sp_II, sp_III, sp_J, sp_JI, sp_JJ, sp_R2, sp_R5I, sp_V]
        rw [strR, if_neg (by decide), if_neg (by decide), if_neg (by decide), if_neg (by decide), if_pos (by decide)]
      · refine tt_sw_out 5 (by decide) (by simp) ?_
        simp only [tt_c, tt_lc, tt_il, tt_ll, tt_al, tt_is, tt_lsv, tt_as, tt_inc, tt_add, tt_sub, tt_mul, tt_and, tt_ladd, tt_lmul, tt_i2l, tt_lcmp, tt_dupr, tt_dup2, tt_eq0, tt_lt0, tt_le0, tt_ge0, tt_gt0, tt_eq2, tt_lt2, tt_ge2, tt_gt2, tt_le2, tt_gr, tt_gi, tt_pi, tt_gl, tt_pl, tt_ia, tt_st, tt_ir, tt_zr, tt_lr, tt_vr, tt_cv, tt_cs, tt_max, tt_min, tt_rem, tt_xor, tt_len, tt_cp, tt_thr, tt_xv, tt_xs, k_sv, k_cl, k_kz, List.getElem?_cons_zero, List.getElem?_cons_succ, List.drop_succ_cons, List.drop_zero, List.take_succ_cons, List.take_zero, List.reverse_cons, List.reverse_nil, List.nil_append, List.cons_append, List.length_cons, List.length_nil, Option.toList_some, Option.toList_none, Nat.reduceAdd, Nat.reduceLeDiff, true_and, and_true, sp_I, sp_II, sp_III, sp_J, sp_JI, sp_JJ, sp_R2, sp_R5I, sp_V]
        rw [strR, if_neg (by decide), if_neg (by decide), if_neg (by decide), if_neg (by decide), if_neg (by decide)]
    · have hM := bM_n (show j < 32 by omega)
      have hk1 : ∀ o', k [some (.ref (ad 6)), some (.int x0), some (.int x1), some (.int (sumTo (snF (M.1 2) x0) j + snF (M.1 2) x0 j)), some (.int (dpF (M.1 2) x0 j (foldTo (dpF (M.1 2) x0) 0 j))), some (.int (sumTo (roF (M.1 2) x0) j + roF (M.1 2) x0 j)), some (.int (sumTo (nnF (M.1 2) x0) j + nnF (M.1 2) x0 j)), some (.int (nI j + 1)), o'] [] M := by
        intro o'
        have := hk (j + 1, o') (by dsimp only; omega) (by dsimp only; omega)
        simpa only [sumTo, foldTo, nI_succ] using this
      clear hk
      generalize sumTo (snF (M.1 2) x0) j = S1 at hk1 ⊢
      generalize foldTo (dpF (M.1 2) x0) 0 j = S2 at hk1 ⊢
      generalize sumTo (roF (M.1 2) x0) j = S3 at hk1 ⊢
      generalize sumTo (nnF (M.1 2) x0) j = S4 at hk1 ⊢
      simp only [snF, dpF, roF, nnF] at hk1
      simp only [fr_isJoined, hM, if_true, bI_0, tt_c, tt_lc, tt_il, tt_ll, tt_al, tt_is, tt_lsv, tt_as, tt_inc, tt_add, tt_sub, tt_mul, tt_and, tt_ladd, tt_lmul, tt_i2l, tt_lcmp, tt_dupr, tt_dup2, tt_eq0, tt_lt0, tt_le0, tt_ge0, tt_gt0, tt_eq2, tt_lt2, tt_ge2, tt_gt2, tt_le2, tt_gr, tt_gi, tt_pi, tt_gl, tt_pl, tt_ia, tt_st, tt_ir, tt_zr, tt_lr, tt_vr, tt_cv, tt_cs, tt_max, tt_min, tt_rem, tt_xor, tt_len, tt_cp, tt_thr, tt_xv, tt_xs, k_sv, k_cl, k_kz, List.getElem?_cons_zero, List.getElem?_cons_succ, List.drop_succ_cons, List.drop_zero, List.take_succ_cons, List.take_zero, List.reverse_cons, List.reverse_nil, List.nil_append, List.cons_append, List.length_cons, List.length_nil, Option.toList_some, Option.toList_none, Nat.reduceAdd, Nat.reduceLeDiff, true_and, and_true, sp_I, sp_II, sp_III, sp_J, sp_JI, sp_JJ, sp_R2, sp_R5I, sp_V]
      refine ⟨fun c2 => ?_, fun c2 => ?_⟩
      · simp only [if_pos c2] at hk1
        simpa using hk1 o
      · simp only [if_neg c2] at hk1
        simp only [Bool.not_eq_false] at c2
        have hok := wfR_at hw (show j < 32 by omega) c2
        simp only [fr_depthOf, hs, hok, and_self, if_true, tt_c, tt_lc, tt_il, tt_ll, tt_al, tt_is, tt_lsv, tt_as, tt_inc, tt_add, tt_sub, tt_mul, tt_and, tt_ladd, tt_lmul, tt_i2l, tt_lcmp, tt_dupr, tt_dup2, tt_eq0, tt_lt0, tt_le0, tt_ge0, tt_gt0, tt_eq2, tt_lt2, tt_ge2, tt_gt2, tt_le2, tt_gr, tt_gi, tt_pi, tt_gl, tt_pl, tt_ia, tt_st, tt_ir, tt_zr, tt_lr, tt_vr, tt_cv, tt_cs, tt_max, tt_min, tt_rem, tt_xor, tt_len, tt_cp, tt_thr, tt_xv, tt_xs, k_sv, k_cl, k_kz, List.getElem?_cons_zero, List.getElem?_cons_succ, List.drop_succ_cons, List.drop_zero, List.take_succ_cons, List.take_zero, List.reverse_cons, List.reverse_nil, List.nil_append, List.cons_append, List.length_cons, List.length_nil, Option.toList_some, Option.toList_none, Nat.reduceAdd, Nat.reduceLeDiff, true_and, and_true, sp_I, sp_II, sp_III, sp_J, sp_JI, sp_JJ, sp_R2, sp_R5I, sp_V]
        have key : ∀ (d1 d2 : Int32), d1 = (if dR (M.1 2) (nI j) x0 = -1 then 0 else 1) → d2 = (if dR (M.1 2) (nI j) x0 ≤ S2 then S2 else dR (M.1 2) (nI j) x0) → T_X4_stripeOf_67 ad (.inl (some (.int (strR (M.1 2) x0 x1)), M)) (sp_II fr_childrenIn) (sp_II fr_depthOf) (sp_I fr_isJoined) (sp_II fr_isRoomy) (sp_I fr_orphans) k [some (.ref (ad 6)), some (.int x0), some (.int x1), some (.int (S1 + d1)), some (.int S2), some (.int S3), some (.int S4), some (.int (nI j)), some (.int (dR (M.1 2) (nI j) x0))] [.int d2] M := by
          intro d1 d2 h1 h2
          rw [← h1, ← h2] at hk1
          simp only [T_X4_stripeOf_67, T_X4_stripeOf_86, T_X4_stripeOf_106, T_X4_stripeOf_109, tt_c, tt_lc, tt_il, tt_ll, tt_al, tt_is, tt_lsv, tt_as, tt_inc, tt_add, tt_sub, tt_mul, tt_and, tt_ladd, tt_lmul, tt_i2l, tt_lcmp, tt_dupr, tt_dup2, tt_eq0, tt_lt0, tt_le0, tt_ge0, tt_gt0, tt_eq2, tt_lt2, tt_ge2, tt_gt2, tt_le2, tt_gr, tt_gi, tt_pi, tt_gl, tt_pl, tt_ia, tt_st, tt_ir, tt_zr, tt_lr, tt_vr, tt_cv, tt_cs, tt_max, tt_min, tt_rem, tt_xor, tt_len, tt_cp, tt_thr, tt_xv, tt_xs, k_sv, k_cl, k_kz, List.getElem?_cons_zero, List.getElem?_cons_succ, List.drop_succ_cons, List.drop_zero, List.take_succ_cons, List.take_zero, List.reverse_cons, List.reverse_nil, List.nil_append, List.cons_append, List.length_cons, List.length_nil, Option.toList_some, Option.toList_none, Nat.reduceAdd, Nat.reduceLeDiff, true_and, and_true, sp_I, sp_II, sp_III, sp_J, sp_JI, sp_JJ, sp_R2, sp_R5I, sp_V, fr_isRoomy, fr_childrenIn, hs, hM, hok, and_self, or_true, if_true, bI_0]
          refine ⟨fun c3 => ⟨fun c4 => ?_, fun c4 => ?_⟩, fun c3 => ⟨fun c4 => ?_, fun c4 => ?_⟩⟩
          · rw [if_pos c3, if_pos c4] at hk1
            exact hk1 _
          · rw [if_pos c3, if_neg c4] at hk1
            exact hk1 _
          · rw [if_neg c3, if_pos c4] at hk1
            exact hk1 _
          · rw [if_neg c3, if_neg c4] at hk1
            exact hk1 _
        refine ⟨fun c3 => ⟨fun c4 => ?_, fun c4 => ?_⟩, fun c3 => ⟨fun c4 => ?_, fun c4 => ?_⟩⟩
        · exact key 0 S2 (if_pos c3).symm (if_pos c4).symm
        · exact key 0 _ (if_pos c3).symm (if_neg c4).symm
        · exact key 1 S2 (if_neg c3).symm (if_pos c4).symm
        · exact key 1 _ (if_neg c3).symm (if_neg c4).symm
  · cases h
def fr_stripe (s w : Int32) (M : Mm) : Option Rs := qG (if bS s = true then 1 else if bR w 0 5 = true then 2 else 0) (wfR (M.1 2) s) (strR (M.1 2) s w) M
theorem pr_stripe (ad : Nat → Nat) (x0 x1 : Int32) (M : Mm) (r : Rs) (h : fr_stripe x0 x1 M = some r) : T_X4_stripe_0 ad r (sp_III fr_in) (sp_I fr_isStripe) (sp_II fr_stripeOf) [some (.ref (ad 6)), some (.int x0), some (.int x1)] [] M := by
  unfold fr_stripe at h
  cases hb : bS x0 <;> cases hs : bR x1 0 5 <;> simp only [hb, hs, kc_43, kc_1, kc_42, kc_L, z_10, z_20, z_30, z_00, bI_t, bI_f, if_true, if_false, Bool.false_eq_true, Bool.true_eq_false, not_true_eq_false, not_false_eq_true, false_implies, true_implies, and_self, true_and, and_true, and_false, false_and, reduceCtorEq] at h <;>
    first | (have hg := (qG_0 h).1; have h0 := (qG_0 h).2) | have h0 := qG_1 h | have h0 := qG_2 h
  all_goals
    subst h0
    simp only [T_X4_stripe_46, T_X4_stripe_26, T_X4_stripe_0, tt_c, tt_lc, tt_il, tt_ll, tt_al, tt_is, tt_lsv, tt_as, tt_inc, tt_add, tt_sub, tt_mul, tt_and, tt_ladd, tt_lmul, tt_i2l, tt_lcmp, tt_dupr, tt_dup2, tt_eq0, tt_lt0, tt_le0, tt_ge0, tt_gt0, tt_eq2, tt_lt2, tt_ge2, tt_gt2, tt_le2, tt_gr, tt_gi, tt_pi, tt_gl, tt_pl, tt_ia, tt_st, tt_ir, tt_zr, tt_lr, tt_vr, tt_cv, tt_cs, tt_max, tt_min, tt_rem, tt_xor, tt_len, tt_cp, tt_thr, tt_xv, tt_xs, k_sv, k_cl, k_kz, List.getElem?_cons_zero, List.getElem?_cons_succ, List.drop_succ_cons, List.drop_zero, List.take_succ_cons, List.take_zero, List.reverse_cons, List.reverse_nil, List.nil_append, List.cons_append, List.length_cons, List.length_nil, Option.toList_some, Option.toList_none, Nat.reduceAdd, Nat.reduceLeDiff, true_and, and_true, sp_I, sp_II, sp_III, sp_J, sp_JI, sp_JJ, sp_R2, sp_R5I, sp_V, kc_43, kc_1, kc_42, kc_L, z_10, z_20, z_30, z_00, bI_t, bI_f, if_true, if_false, Bool.false_eq_true, Bool.true_eq_false, not_true_eq_false, not_false_eq_true, false_implies, true_implies, and_self, true_and, and_true, and_false, false_and, reduceCtorEq, fr_in, fr_isStripe, fr_stripeOf, hb, hs, Bool.not_true, Bool.not_false, kc_def]
  simp only [hg, if_true, and_self, tt_c, tt_lc, tt_il, tt_ll, tt_al, tt_is, tt_lsv, tt_as, tt_inc, tt_add, tt_sub, tt_mul, tt_and, tt_ladd, tt_lmul, tt_i2l, tt_lcmp, tt_dupr, tt_dup2, tt_eq0, tt_lt0, tt_le0, tt_ge0, tt_gt0, tt_eq2, tt_lt2, tt_ge2, tt_gt2, tt_le2, tt_gr, tt_gi, tt_pi, tt_gl, tt_pl, tt_ia, tt_st, tt_ir, tt_zr, tt_lr, tt_vr, tt_cv, tt_cs, tt_max, tt_min, tt_rem, tt_xor, tt_len, tt_cp, tt_thr, tt_xv, tt_xs, k_sv, k_cl, k_kz, List.getElem?_cons_zero, List.getElem?_cons_succ, List.drop_succ_cons, List.drop_zero, List.take_succ_cons, List.take_zero, List.reverse_cons, List.reverse_nil, List.nil_append, List.cons_append, List.length_cons, List.length_nil, Option.toList_some, Option.toList_none, Nat.reduceAdd, Nat.reduceLeDiff, true_and, and_true, sp_I, sp_II, sp_III, sp_J, sp_JI, sp_JJ, sp_R2, sp_R5I, sp_V]
def ctF (m : Re) (x : Nat) : Int32 := oR m (nI x) 0
def ctR (m : Re) (w : Int32) : Int32 := if w ≤ 0 then sumTo (ctF m) 32 else m (3 + w).toNatClampNeg
def fr_countOf (w : Int32) (M : Mm) : Option Rs := if bR w 0 7 = false then some (.inl (some (.int (ctR (M.1 2) w)), M)) else none
theorem pr_countOf (ad : Nat → Nat) (x0 : Int32) (M : Mm) (r : Rs) (h : fr_countOf x0 M = some r) : T_X4_countOf_0 ad r (sp_II fr_of) [some (.ref (ad 6)), some (.int x0), none, none] [] M := by
  unfold fr_countOf at h
  split at h
  · next hg =>
    cases h
    simp only [T_X4_countOf_0, tt_c, tt_lc, tt_il, tt_ll, tt_al, tt_is, tt_lsv, tt_as, tt_inc, tt_add, tt_sub, tt_mul, tt_and, tt_ladd, tt_lmul, tt_i2l, tt_lcmp, tt_dupr, tt_dup2, tt_eq0, tt_lt0, tt_le0, tt_ge0, tt_gt0, tt_eq2, tt_lt2, tt_ge2, tt_gt2, tt_le2, tt_gr, tt_gi, tt_pi, tt_gl, tt_pl, tt_ia, tt_st, tt_ir, tt_zr, tt_lr, tt_vr, tt_cv, tt_cs, tt_max, tt_min, tt_rem, tt_xor, tt_len, tt_cp, tt_thr, tt_xv, tt_xs, k_sv, k_cl, k_kz, List.getElem?_cons_zero, List.getElem?_cons_succ, List.drop_succ_cons, List.drop_zero, List.take_succ_cons, List.take_zero, List.reverse_cons, List.reverse_nil, List.nil_append, List.cons_append, List.length_cons, List.length_nil, Option.toList_some, Option.toList_none, Nat.reduceAdd, Nat.reduceLeDiff, true_and, and_true, sp_I, sp_II, sp_III, sp_J, sp_JI, sp_JJ, sp_R2, sp_R5I, sp_V]
    refine ⟨fun c0 => ?_, fun c0 => ?_⟩
    · rw [ctR, if_pos c0]
      refine lp_of (σ := Nat) (fun j => j ≤ 32) (fun j => [some (.ref (ad 6)), some (.int x0), some (.int (sumTo (ctF (M.1 2)) j)), some (.int (nI j))]) (fun _ => M) (fun j => 32 - j) ?_ 0 (by omega)
      intro k j hj hk
      simp only [T_X4_countOf_17, T_X4_countOf_0, tt_c, tt_lc, tt_il, tt_ll, tt_al, tt_is, tt_lsv, tt_as, tt_inc, tt_add, tt_sub, tt_mul, tt_and, tt_ladd, tt_lmul, tt_i2l, tt_lcmp, tt_dupr, tt_dup2, tt_eq0, tt_lt0, tt_le0, tt_ge0, tt_gt0, tt_eq2, tt_lt2, tt_ge2, tt_gt2, tt_le2, tt_gr, tt_gi, tt_pi, tt_gl, tt_pl, tt_ia, tt_st, tt_ir, tt_zr, tt_lr, tt_vr, tt_cv, tt_cs, tt_max, tt_min, tt_rem, tt_xor, tt_len, tt_cp, tt_thr, tt_xv, tt_xs, k_sv, k_cl, k_kz, List.getElem?_cons_zero, List.getElem?_cons_succ, List.drop_succ_cons, List.drop_zero, List.take_succ_cons, List.take_zero, List.reverse_cons, List.reverse_nil, List.nil_append, List.cons_append, List.length_cons, List.length_nil, Option.toList_some, Option.toList_none, Nat.reduceAdd, Nat.reduceLeDiff, true_and, and_true, sp_I, sp_II, sp_III, sp_J, sp_JI, sp_JJ, sp_R2, sp_R5I, sp_V, ge32 hj]
      refine ⟨fun c1 => ?_, fun c1 => ?_⟩
      · subst c1
        rfl
      · simp only [fr_of, bM_n (show j < 32 by omega), bW_0, and_self, if_true, tt_c, tt_lc, tt_il, tt_ll, tt_al, tt_is, tt_lsv, tt_as, tt_inc, tt_add, tt_sub, tt_mul, tt_and, tt_ladd, tt_lmul, tt_i2l, tt_lcmp, tt_dupr, tt_dup2, tt_eq0, tt_lt0, tt_le0, tt_ge0, tt_gt0, tt_eq2, tt_lt2, tt_ge2, tt_gt2, tt_le2, tt_gr, tt_gi, tt_pi, tt_gl, tt_pl, tt_ia, tt_st, tt_ir, tt_zr, tt_lr, tt_vr, tt_cv, tt_cs, tt_max, tt_min, tt_rem, tt_xor, tt_len, tt_cp, tt_thr, tt_xv, tt_xs, k_sv, k_cl, k_kz, List.getElem?_cons_zero, List.getElem?_cons_succ, List.drop_succ_cons, List.drop_zero, List.take_succ_cons, List.take_zero, List.reverse_cons, List.reverse_nil, List.nil_append, List.cons_append, List.length_cons, List.length_nil, Option.toList_some, Option.toList_none, Nat.reduceAdd, Nat.reduceLeDiff, true_and, and_true, sp_I, sp_II, sp_III, sp_J, sp_JI, sp_JJ, sp_R2, sp_R5I, sp_V]
        have := hk (j + 1) (by omega) (by omega)
        simpa only [sumTo, nI_succ, ctF] using this
    · rw [ctR, if_neg c0]
      obtain ⟨j, hj, rfl⟩ := bR_of (n := 7) (by omega) hg
      refine ⟨?_, rfl⟩
      rw [show (3 : Int32) = nI 3 from rfl, nI_add]
      exact vp_in_nI (by omega) (by omega)
  · cases h
def fr_count (w : Int32) (M : Mm) : Option Rs := qG (if bR w 0 7 = true then 1 else 0) true (ctR (M.1 2) w) M
theorem pr_count (ad : Nat → Nat) (x0 : Int32) (M : Mm) (r : Rs) (h : fr_count x0 M = some r) : T_X4_count_0 ad r (sp_I fr_countOf) (sp_III fr_in) [some (.ref (ad 6)), some (.int x0)] [] M := by
  unfold fr_count at h
  cases hs : bR x0 0 7 <;> simp only [hs, kc_43, kc_1, kc_42, kc_L, z_10, z_20, z_30, z_00, bI_t, bI_f, if_true, if_false, Bool.false_eq_true, Bool.true_eq_false, not_true_eq_false, not_false_eq_true, false_implies, true_implies, and_self, true_and, and_true, and_false, false_and, reduceCtorEq] at h <;>
    first | (have h0 := (qG_0 h).2) | have h0 := qG_1 h
  all_goals
    subst h0
    simp only [T_X4_count_35, T_X4_count_16, T_X4_count_0, tt_c, tt_lc, tt_il, tt_ll, tt_al, tt_is, tt_lsv, tt_as, tt_inc, tt_add, tt_sub, tt_mul, tt_and, tt_ladd, tt_lmul, tt_i2l, tt_lcmp, tt_dupr, tt_dup2, tt_eq0, tt_lt0, tt_le0, tt_ge0, tt_gt0, tt_eq2, tt_lt2, tt_ge2, tt_gt2, tt_le2, tt_gr, tt_gi, tt_pi, tt_gl, tt_pl, tt_ia, tt_st, tt_ir, tt_zr, tt_lr, tt_vr, tt_cv, tt_cs, tt_max, tt_min, tt_rem, tt_xor, tt_len, tt_cp, tt_thr, tt_xv, tt_xs, k_sv, k_cl, k_kz, List.getElem?_cons_zero, List.getElem?_cons_succ, List.drop_succ_cons, List.drop_zero, List.take_succ_cons, List.take_zero, List.reverse_cons, List.reverse_nil, List.nil_append, List.cons_append, List.length_cons, List.length_nil, Option.toList_some, Option.toList_none, Nat.reduceAdd, Nat.reduceLeDiff, true_and, and_true, sp_I, sp_II, sp_III, sp_J, sp_JI, sp_JJ, sp_R2, sp_R5I, sp_V, kc_43, kc_1, kc_42, kc_L, z_10, z_20, z_30, z_00, bI_t, bI_f, if_true, if_false, Bool.false_eq_true, Bool.true_eq_false, not_true_eq_false, not_false_eq_true, false_implies, true_implies, and_self, true_and, and_true, and_false, false_and, reduceCtorEq, fr_in, fr_countOf, hs, Bool.not_true, Bool.not_false, kc_def]
