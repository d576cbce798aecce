/-! the class's digest -/
theorem fold2_s {σ : Type} (g : Nat → σ → σ) (a : σ) (n : Nat) : fold2 g a (n + 1) = g n (fold2 g a n) := by rw [fold2]
def mxL (h v : Int64) : Int64 := 31 * h + v
def f_mixed (h v : Int64) (M : Mm) : Option Rs := some (.inl (some (.long (mxL h v)), M))
theorem p_mixed (ad : Nat → Nat) (x0 x1 : Int64) (M : Mm) (r : Rs) (h : f_mixed x0 x1 M = some r) : T_X3_mixed_0 ad r [some (.long x0), none, some (.long x1), none] [] M := by
  cases h
  simp only [T_X3_mixed_0, tt_c, tt_lc, tt_il, tt_ll, tt_al, tt_is, tt_lsv, tt_as, tt_inc, tt_add, tt_sub, tt_mul, tt_and, tt_ladd, tt_lmul, tt_i2l, tt_lcmp, tt_dupr, tt_dup2, tt_eq0, tt_lt0, tt_le0, tt_ge0, tt_gt0, tt_eq2, tt_lt2, tt_ge2, tt_gt2, tt_le2, tt_gr, tt_gi, tt_pi, tt_gl, tt_pl, tt_ia, tt_st, tt_ir, tt_zr, tt_lr, tt_vr, tt_cv, tt_cs, tt_max, tt_min, tt_rem, tt_xor, tt_len, tt_cp, tt_thr, tt_xv, tt_xs, k_sv, k_cl, k_kz, List.getElem?_cons_zero, List.getElem?_cons_succ, List.drop_succ_cons, List.drop_zero, List.take_succ_cons, List.take_zero, List.reverse_cons, List.reverse_nil, List.nil_append, List.cons_append, List.length_cons, List.length_nil, Option.toList_some, Option.toList_none, Nat.reduceAdd, Nat.reduceLeDiff, true_and, and_true, sp_I, sp_II, sp_III, sp_JI, sp_JJ, sp_R2, sp_R5I, sp_V, mxL]
def mmA (c : Ce) (x : Int32) (w : Nat) (h : Int64) : Int64 := mxL h (vC c x (nI w)).toInt64
def mmB (c : Ce) (x : Int32) (s : Nat) (h : Int64) : Int64 := mxL (mxL (mxL (mxL h (pC c x (nI s)).toInt64) (dC c x (nI s)).toInt64) (stC c x (nI s)).toInt64) (if rmC c x (nI s) = false then 0 else 1)
def mmC (c : Ce) (h : Int64) (x : Int32) : Int64 := if jnC c x = true then fold2 (mmB c x) (mxL (mxL (fold2 (mmA c x) h 10) (haC c x).toInt64) (pcC c x).toInt64) 4 else fold2 (mmA c x) h 10
def f_mixedWithMember (h : Int64) (x : Int32) (M : Mm) : Option Rs := if bM x = true then none else some (.inl (some (.long (mmC (M.1 0) h x)), M))
theorem ge6 {j : Nat} (hj : j ≤ 6) : (6 : Int32) ≤ nI j ↔ j = 6 := by
  rw [show (6 : Int32) = nI 6 from rfl, nI_leI (by omega) (by omega)]
  omega
theorem ge8 {j : Nat} (hj : j ≤ 8) : (8 : Int32) ≤ nI j ↔ j = 8 := by
  rw [show (8 : Int32) = nI 8 from rfl, nI_leI (by omega) (by omega)]
  omega
theorem p_mixedWithMember (ad : Nat → Nat) (x0 : Int64) (x1 : Int32) (M : Mm) (r : Rs) (h : f_mixedWithMember x0 x1 M = some r) : T_X3_mixedWithMember_0 ad r (sp_II f_parentOf) (sp_II f_value) (sp_II f_depthOf) (sp_II f_isRoomAt) (sp_I f_piecesOf) (sp_II f_subtreeSize) (sp_I f_harm) (sp_I f_isJoined) (sp_JJ f_mixed) [some (.ref (ad 0)), some (.long x0), none, some (.int x1), none, none, none] [] M := by
  by_cases hM : bM x1 = true
  · simp [f_mixedWithMember, hM] at h
  · simp only [f_mixedWithMember, hM, if_false, Bool.false_eq_true, Option.some.injEq] at h
    subst h
    simp only [T_X3_mixedWithMember_0, tt_c, tt_lc, tt_il, tt_ll, tt_al, tt_is, tt_lsv, tt_as, tt_inc, tt_add, tt_sub, tt_mul, tt_and, tt_ladd, tt_lmul, tt_i2l, tt_lcmp, tt_dupr, tt_dup2, tt_eq0, tt_lt0, tt_le0, tt_ge0, tt_gt0, tt_eq2, tt_lt2, tt_ge2, tt_gt2, tt_le2, tt_gr, tt_gi, tt_pi, tt_gl, tt_pl, tt_ia, tt_st, tt_ir, tt_zr, tt_lr, tt_vr, tt_cv, tt_cs, tt_max, tt_min, tt_rem, tt_xor, tt_len, tt_cp, tt_thr, tt_xv, tt_xs, k_sv, k_cl, k_kz, List.getElem?_cons_zero, List.getElem?_cons_succ, List.drop_succ_cons, List.drop_zero, List.take_succ_cons, List.take_zero, List.reverse_cons, List.reverse_nil, List.nil_append, List.cons_append, List.length_cons, List.length_nil, Option.toList_some, Option.toList_none, Nat.reduceAdd, Nat.reduceLeDiff, true_and, and_true, sp_I, sp_II, sp_III, sp_JI, sp_JJ, sp_R2, sp_R5I, sp_V]
    refine lp_of (σ := Nat) (fun j => j ≤ 10) (fun j => [some (.ref (ad 0)), some (.long x0), none, some (.int x1), some (.long (fold2 (mmA (M.1 0) x1) x0 j)), none, some (.int (nI j))]) (fun j => M) (fun j => 10 - j) ?_ 0 (by omega)
    intro k j hj hk
    simp only [tt_c, tt_lc, tt_il, tt_ll, tt_al, tt_is, tt_lsv, tt_as, tt_inc, tt_add, tt_sub, tt_mul, tt_and, tt_ladd, tt_lmul, tt_i2l, tt_lcmp, tt_dupr, tt_dup2, tt_eq0, tt_lt0, tt_le0, tt_ge0, tt_gt0, tt_eq2, tt_lt2, tt_ge2, tt_gt2, tt_le2, tt_gr, tt_gi, tt_pi, tt_gl, tt_pl, tt_ia, tt_st, tt_ir, tt_zr, tt_lr, tt_vr, tt_cv, tt_cs, tt_max, tt_min, tt_rem, tt_xor, tt_len, tt_cp, tt_thr, tt_xv, tt_xs, k_sv, k_cl, k_kz, List.getElem?_cons_zero, List.getElem?_cons_succ, List.drop_succ_cons, List.drop_zero, List.take_succ_cons, List.take_zero, List.reverse_cons, List.reverse_nil, List.nil_append, List.cons_append, List.length_cons, List.length_nil, Option.toList_some, Option.toList_none, Nat.reduceAdd, Nat.reduceLeDiff, true_and, and_true, sp_I, sp_II, sp_III, sp_JI, sp_JJ, sp_R2, sp_R5I, sp_V, f_value, f_isJoined, f_mixed, f_harm, f_piecesOf, bI_0, ge10 hj, hM, if_false, Bool.false_eq_true]
    refine ⟨fun c1 => ?_, fun c1 => ?_⟩
    · subst c1
      by_cases c2 : jnC (M.1 0) x1 = true
      · simp only [c2, if_true, Bool.true_eq_false, false_imp_iff, not_false_eq_true, true_imp_iff, tt_c, tt_lc, tt_il, tt_ll, tt_al, tt_is, tt_lsv, tt_as, tt_inc, tt_add, tt_sub, tt_mul, tt_and, tt_ladd, tt_lmul, tt_i2l, tt_lcmp, tt_dupr, tt_dup2, tt_eq0, tt_lt0, tt_le0, tt_ge0, tt_gt0, tt_eq2, tt_lt2, tt_ge2, tt_gt2, tt_le2, tt_gr, tt_gi, tt_pi, tt_gl, tt_pl, tt_ia, tt_st, tt_ir, tt_zr, tt_lr, tt_vr, tt_cv, tt_cs, tt_max, tt_min, tt_rem, tt_xor, tt_len, tt_cp, tt_thr, tt_xv, tt_xs, k_sv, k_cl, k_kz, List.getElem?_cons_zero, List.getElem?_cons_succ, List.drop_succ_cons, List.drop_zero, List.take_succ_cons, List.take_zero, List.reverse_cons, List.reverse_nil, List.nil_append, List.cons_append, List.length_cons, List.length_nil, Option.toList_some, Option.toList_none, Nat.reduceAdd, Nat.reduceLeDiff, true_and, and_true, sp_I, sp_II, sp_III, sp_JI, sp_JJ, sp_R2, sp_R5I, sp_V, f_mixed, f_piecesOf]
        refine lp_of (σ := Nat) (fun j => j ≤ 4) (fun j => [some (.ref (ad 0)), some (.long x0), none, some (.int x1), some (.long (fold2 (mmB (M.1 0) x1) (mxL (mxL (fold2 (mmA (M.1 0) x1) x0 10) (haC (M.1 0) x1).toInt64) (pcC (M.1 0) x1).toInt64) j)), none, some (.int (nI j))]) (fun j => M) (fun j => 4 - j) ?_ 0 (by omega)
        intro k2 j hj hk2
        have hk3 := hk2 (j + 1)
        rw [fold2_s (mmB (M.1 0) x1) _ j, nI_succ] at hk3
        generalize hz : fold2 (mmB (M.1 0) x1) (mxL (mxL (fold2 (mmA (M.1 0) x1) x0 10) (haC (M.1 0) x1).toInt64) (pcC (M.1 0) x1).toInt64) j = z at hk3 ⊢
        simp only [T_X3_mixedWithMember_160, tt_c, tt_lc, tt_il, tt_ll, tt_al, tt_is, tt_lsv, tt_as, tt_inc, tt_add, tt_sub, tt_mul, tt_and, tt_ladd, tt_lmul, tt_i2l, tt_lcmp, tt_dupr, tt_dup2, tt_eq0, tt_lt0, tt_le0, tt_ge0, tt_gt0, tt_eq2, tt_lt2, tt_ge2, tt_gt2, tt_le2, tt_gr, tt_gi, tt_pi, tt_gl, tt_pl, tt_ia, tt_st, tt_ir, tt_zr, tt_lr, tt_vr, tt_cv, tt_cs, tt_max, tt_min, tt_rem, tt_xor, tt_len, tt_cp, tt_thr, tt_xv, tt_xs, k_sv, k_cl, k_kz, List.getElem?_cons_zero, List.getElem?_cons_succ, List.drop_succ_cons, List.drop_zero, List.take_succ_cons, List.take_zero, List.reverse_cons, List.reverse_nil, List.nil_append, List.cons_append, List.length_cons, List.length_nil, Option.toList_some, Option.toList_none, Nat.reduceAdd, Nat.reduceLeDiff, true_and, and_true, sp_I, sp_II, sp_III, sp_JI, sp_JJ, sp_R2, sp_R5I, sp_V, f_parentOf, f_depthOf, f_subtreeSize, f_isRoomAt, f_mixed, bI_0, ge4 hj]
        refine ⟨fun c3 => ?_, fun c3 => ⟨fun c4 => ?_, fun c4 => ?_⟩⟩
        · subst c3
          simp only [mmC, c2, if_true]
          rw [hz]
        · simpa [mmB, c4] using hk3 (by omega) (by omega)
        · simpa [mmB, c4] using hk3 (by omega) (by omega)
      · simp only [Bool.not_eq_true] at c2
        simp only [c2, Bool.false_eq_true, if_false, not_true_eq_false, false_imp_iff, true_imp_iff, tt_c, tt_lc, tt_il, tt_ll, tt_al, tt_is, tt_lsv, tt_as, tt_inc, tt_add, tt_sub, tt_mul, tt_and, tt_ladd, tt_lmul, tt_i2l, tt_lcmp, tt_dupr, tt_dup2, tt_eq0, tt_lt0, tt_le0, tt_ge0, tt_gt0, tt_eq2, tt_lt2, tt_ge2, tt_gt2, tt_le2, tt_gr, tt_gi, tt_pi, tt_gl, tt_pl, tt_ia, tt_st, tt_ir, tt_zr, tt_lr, tt_vr, tt_cv, tt_cs, tt_max, tt_min, tt_rem, tt_xor, tt_len, tt_cp, tt_thr, tt_xv, tt_xs, k_sv, k_cl, k_kz, List.getElem?_cons_zero, List.getElem?_cons_succ, List.drop_succ_cons, List.drop_zero, List.take_succ_cons, List.take_zero, List.reverse_cons, List.reverse_nil, List.nil_append, List.cons_append, List.length_cons, List.length_nil, Option.toList_some, Option.toList_none, Nat.reduceAdd, Nat.reduceLeDiff, true_and, and_true, sp_I, sp_II, sp_III, sp_JI, sp_JJ, sp_R2, sp_R5I, sp_V]
        simp only [mmC, c2, Bool.false_eq_true, if_false]
    · have hk1 := hk (j + 1) (by omega) (by omega)
      rw [fold2_s (mmA (M.1 0) x1) _ j, nI_succ] at hk1
      generalize fold2 (mmA (M.1 0) x1) x0 j = z at hk1 ⊢
      simpa [mmA] using hk1
def dgA (c : Ce) (x : Nat) (h : Int64) : Int64 := mmC c h (nI x)
def dgB (c : Ce) (s w : Nat) (h : Int64) : Int64 := mxL h (siC c (nI s) (nI w)).toInt64
def dgD (c : Ce) (s : Nat) (h : Int64) : Int64 := fold2 (dgB c s) h 6
def dgE (c : Ce) (w : Nat) (h : Int64) : Int64 := mxL h (figC c (nI w)).toInt64
def dg0 (n : Int32) (c : Ce) : Int64 := mxL (mxL (mxL (mxL 12560 n.toInt64) (figC c 8).toInt64) (figC c 9).toInt64) (figC c 10).toInt64
def diC (n : Int32) (c : Ce) : Int64 := fold2 (dgE c) (fold2 (dgD c) (fold2 (dgA c) (dg0 n c) 32) 4) 8
def f_digest (M : Mm) : Option Rs := some (.inl (some (.long (diC (M.1 4 0) (M.1 0))), M))
theorem bM_n {j : Nat} (h : j < 32) : bM (nI j) = false := by
  simp only [bM, Bool.or_eq_false_iff, decide_eq_false_iff_not, Decidable.not_not]
  refine ⟨nI_pos (by omega), ?_⟩
  rw [show (32 : Int32) = nI 32 from rfl, nI_ltI (by omega) (by omega)]
  exact h
theorem bS_n {j : Nat} (h : j < 4) : bS (nI j) = false := by
  simp only [bS, Bool.or_eq_false_iff, decide_eq_false_iff_not, Decidable.not_not]
  refine ⟨nI_pos (by omega), ?_⟩
  rw [show (4 : Int32) = nI 4 from rfl, nI_ltI (by omega) (by omega)]
  exact h
theorem bR_n {j n : Nat} (h : j ≤ n) (hn : n < 2 ^ 31) : bR (nI j) 0 (nI n) = false := by
  simp only [bR, Bool.or_eq_false_iff, decide_eq_false_iff_not, Decidable.not_not]
  exact ⟨nI_pos (by omega), by rw [nI_leI (by omega) (by omega)]; exact h⟩
theorem p_digest (ad : Nat → Nat) (M : Mm) (r : Rs) (h : f_digest M = some r) : T_X3_digest_0 ad r (sp_I f_figure) (sp_V f_size) (sp_JJ f_mixed) (sp_JI f_mixedWithMember) (sp_II f_stripe) [some (.ref (ad 0)), none, none, none, none] [] M := by
  cases h
  simp only [T_X3_digest_0, tt_c, tt_lc, tt_il, tt_ll, tt_al, tt_is, tt_lsv, tt_as, tt_inc, tt_add, tt_sub, tt_mul, tt_and, tt_ladd, tt_lmul, tt_i2l, tt_lcmp, tt_dupr, tt_dup2, tt_eq0, tt_lt0, tt_le0, tt_ge0, tt_gt0, tt_eq2, tt_lt2, tt_ge2, tt_gt2, tt_le2, tt_gr, tt_gi, tt_pi, tt_gl, tt_pl, tt_ia, tt_st, tt_ir, tt_zr, tt_lr, tt_vr, tt_cv, tt_cs, tt_max, tt_min, tt_rem, tt_xor, tt_len, tt_cp, tt_thr, tt_xv, tt_xs, k_sv, k_cl, k_kz, List.getElem?_cons_zero, List.getElem?_cons_succ, List.drop_succ_cons, List.drop_zero, List.take_succ_cons, List.take_zero, List.reverse_cons, List.reverse_nil, List.nil_append, List.cons_append, List.length_cons, List.length_nil, Option.toList_some, Option.toList_none, Nat.reduceAdd, Nat.reduceLeDiff, true_and, and_true, sp_I, sp_II, sp_III, sp_JI, sp_JJ, sp_R2, sp_R5I, sp_V, f_figure, f_size, f_mixed]
  refine lp_of (σ := Nat) (fun j => j ≤ 32) (fun j => [some (.ref (ad 0)), some (.long (fold2 (dgA (M.1 0)) (dg0 (M.1 4 0) (M.1 0)) j)), none, some (.int (nI j)), none]) (fun j => M) (fun j => 32 - j) ?_ 0 (by omega)
  intro k j hj hk
  have hk1 := hk (j + 1)
  rw [fold2_s (dgA (M.1 0)) _ j, nI_succ] at hk1
  simp only [tt_c, tt_lc, tt_il, tt_ll, tt_al, tt_is, tt_lsv, tt_as, tt_inc, tt_add, tt_sub, tt_mul, tt_and, tt_ladd, tt_lmul, tt_i2l, tt_lcmp, tt_dupr, tt_dup2, tt_eq0, tt_lt0, tt_le0, tt_ge0, tt_gt0, tt_eq2, tt_lt2, tt_ge2, tt_gt2, tt_le2, tt_gr, tt_gi, tt_pi, tt_gl, tt_pl, tt_ia, tt_st, tt_ir, tt_zr, tt_lr, tt_vr, tt_cv, tt_cs, tt_max, tt_min, tt_rem, tt_xor, tt_len, tt_cp, tt_thr, tt_xv, tt_xs, k_sv, k_cl, k_kz, List.getElem?_cons_zero, List.getElem?_cons_succ, List.drop_succ_cons, List.drop_zero, List.take_succ_cons, List.take_zero, List.reverse_cons, List.reverse_nil, List.nil_append, List.cons_append, List.length_cons, List.length_nil, Option.toList_some, Option.toList_none, Nat.reduceAdd, Nat.reduceLeDiff, true_and, and_true, sp_I, sp_II, sp_III, sp_JI, sp_JJ, sp_R2, sp_R5I, sp_V, f_mixedWithMember, ge32 hj]
  refine ⟨fun c1 => ?_, fun c1 => ?_⟩
  · subst c1
    clear hk hk1
    refine lp_of (σ := Nat × Option Value) (fun q => q.1 ≤ 4) (fun q => [some (.ref (ad 0)), some (.long (fold2 (dgD (M.1 0)) (fold2 (dgA (M.1 0)) (dg0 (M.1 4 0) (M.1 0)) 32) q.1)), none, some (.int (nI q.1)), q.2]) (fun j => M) (fun q => 4 - q.1) ?_ (0, none) (by show 0 ≤ 4; omega)
    rintro k ⟨s, o⟩ hs hk
    dsimp only at hs
    have hk1 := hk (s + 1, some (.int (nI 6)))
    dsimp only at hk1
    rw [fold2_s (dgD (M.1 0)) _ s, nI_succ] at hk1
    generalize hz : fold2 (dgD (M.1 0)) (fold2 (dgA (M.1 0)) (dg0 (M.1 4 0) (M.1 0)) 32) s = z at hk1 ⊢
    simp only [tt_c, tt_lc, tt_il, tt_ll, tt_al, tt_is, tt_lsv, tt_as, tt_inc, tt_add, tt_sub, tt_mul, tt_and, tt_ladd, tt_lmul, tt_i2l, tt_lcmp, tt_dupr, tt_dup2, tt_eq0, tt_lt0, tt_le0, tt_ge0, tt_gt0, tt_eq2, tt_lt2, tt_ge2, tt_gt2, tt_le2, tt_gr, tt_gi, tt_pi, tt_gl, tt_pl, tt_ia, tt_st, tt_ir, tt_zr, tt_lr, tt_vr, tt_cv, tt_cs, tt_max, tt_min, tt_rem, tt_xor, tt_len, tt_cp, tt_thr, tt_xv, tt_xs, k_sv, k_cl, k_kz, List.getElem?_cons_zero, List.getElem?_cons_succ, List.drop_succ_cons, List.drop_zero, List.take_succ_cons, List.take_zero, List.reverse_cons, List.reverse_nil, List.nil_append, List.cons_append, List.length_cons, List.length_nil, Option.toList_some, Option.toList_none, Nat.reduceAdd, Nat.reduceLeDiff, true_and, and_true, sp_I, sp_II, sp_III, sp_JI, sp_JJ, sp_R2, sp_R5I, sp_V, ge4 hs]
    refine ⟨fun c2 => ?_, fun c2 => ?_⟩
    · subst c2
      subst hz
      refine lp_of (σ := Nat) (fun q => q ≤ 8) (fun q => [some (.ref (ad 0)), some (.long (fold2 (dgE (M.1 0)) (fold2 (dgD (M.1 0)) (fold2 (dgA (M.1 0)) (dg0 (M.1 4 0) (M.1 0)) 32) 4) q)), none, some (.int (nI q)), o]) (fun j => M) (fun q => 8 - q) ?_ 0 (by omega)
      intro k2 w hw hk2
      have hk3 := hk2 (w + 1)
      rw [fold2_s (dgE (M.1 0)) _ w, nI_succ] at hk3
      generalize hy : fold2 (dgE (M.1 0)) (fold2 (dgD (M.1 0)) (fold2 (dgA (M.1 0)) (dg0 (M.1 4 0) (M.1 0)) 32) 4) w = y at hk3 ⊢
      simp only [tt_c, tt_lc, tt_il, tt_ll, tt_al, tt_is, tt_lsv, tt_as, tt_inc, tt_add, tt_sub, tt_mul, tt_and, tt_ladd, tt_lmul, tt_i2l, tt_lcmp, tt_dupr, tt_dup2, tt_eq0, tt_lt0, tt_le0, tt_ge0, tt_gt0, tt_eq2, tt_lt2, tt_ge2, tt_gt2, tt_le2, tt_gr, tt_gi, tt_pi, tt_gl, tt_pl, tt_ia, tt_st, tt_ir, tt_zr, tt_lr, tt_vr, tt_cv, tt_cs, tt_max, tt_min, tt_rem, tt_xor, tt_len, tt_cp, tt_thr, tt_xv, tt_xs, k_sv, k_cl, k_kz, List.getElem?_cons_zero, List.getElem?_cons_succ, List.drop_succ_cons, List.drop_zero, List.take_succ_cons, List.take_zero, List.reverse_cons, List.reverse_nil, List.nil_append, List.cons_append, List.length_cons, List.length_nil, Option.toList_some, Option.toList_none, Nat.reduceAdd, Nat.reduceLeDiff, true_and, and_true, sp_I, sp_II, sp_III, sp_JI, sp_JJ, sp_R2, sp_R5I, sp_V, f_figure, f_mixed, ge8 hw]
      refine ⟨fun c3 => ?_, fun c3 => ?_⟩
      · subst c3
        subst hy
        rfl
      · simpa [dgE] using hk3 (by omega) (by omega)
    · refine lp_of (σ := Nat) (fun q => q ≤ 6) (fun q => [some (.ref (ad 0)), some (.long (fold2 (dgB (M.1 0) s) z q)), none, some (.int (nI s)), some (.int (nI q))]) (fun j => M) (fun q => 6 - q) ?_ 0 (by omega)
      intro k2 w hw hk2
      have hk3 := hk2 (w + 1)
      rw [fold2_s (dgB (M.1 0) s) _ w, nI_succ] at hk3
      simp only [tt_c, tt_lc, tt_il, tt_ll, tt_al, tt_is, tt_lsv, tt_as, tt_inc, tt_add, tt_sub, tt_mul, tt_and, tt_ladd, tt_lmul, tt_i2l, tt_lcmp, tt_dupr, tt_dup2, tt_eq0, tt_lt0, tt_le0, tt_ge0, tt_gt0, tt_eq2, tt_lt2, tt_ge2, tt_gt2, tt_le2, tt_gr, tt_gi, tt_pi, tt_gl, tt_pl, tt_ia, tt_st, tt_ir, tt_zr, tt_lr, tt_vr, tt_cv, tt_cs, tt_max, tt_min, tt_rem, tt_xor, tt_len, tt_cp, tt_thr, tt_xv, tt_xs, k_sv, k_cl, k_kz, List.getElem?_cons_zero, List.getElem?_cons_succ, List.drop_succ_cons, List.drop_zero, List.take_succ_cons, List.take_zero, List.reverse_cons, List.reverse_nil, List.nil_append, List.cons_append, List.length_cons, List.length_nil, Option.toList_some, Option.toList_none, Nat.reduceAdd, Nat.reduceLeDiff, true_and, and_true, sp_I, sp_II, sp_III, sp_JI, sp_JJ, sp_R2, sp_R5I, sp_V, f_stripe, f_mixed, ge6 hw]
      refine ⟨fun c3 => ?_, fun c3 => ?_⟩
      · subst c3
        have := hk1 (by show s + 1 ≤ 4; omega) (by show 4 - (s + 1) < 4 - s; omega)
        simpa [dgD] using this
      · generalize fold2 (dgB (M.1 0) s) z w = y at hk3 ⊢
        rw [bS_n (by omega), show (5 : Int32) = nI 5 from rfl, bR_n (by omega) (by omega)]
        simpa [dgB] using hk3 (by omega) (by omega)
  · generalize fold2 (dgA (M.1 0)) (dg0 (M.1 4 0) (M.1 0)) j = z at hk1 ⊢
    rw [bM_n (by omega)]
    simpa [dgA] using hk1 (by omega) (by omega)
