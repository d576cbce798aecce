/-! the reference in numbers: its ticks and its checksum -/
def addR (m : Re) (x w v : Int32) : Re := upR m x w (oR m x w + v)
def addM (m : Re) (j : Nat) (v : Int32) : Re := upd m j (m j + v)
theorem addR_def (m : Re) (x w v : Int32) : upR m x w (oR m x w + v) = addR m x w v := rfl
theorem addM_def (m : Re) (j : Nat) (v : Int32) : upd m j (m j + v) = addM m j v := rfl
def stX (m : Re) (x n h ms : Int32) : Re := addM (addM (addM (addR (addR (addR m x 5 n) x 6 h) x 7 ms) 5 n) 6 h) 7 ms
def shI (n : Int32) : Int32 := if n < 3 then 0 else 1
def smI (m : Re) (x n : Int32) : Int32 := if n < 3 then (if oR m x 3 = 0 then 1 else 0) else 0
def stR (m : Re) (x : Int32) : Re := stX m x (prR m x (-1)) (shI (prR m x (-1))) (smI m x (prR m x (-1)))
def fr_sendTo (x : Int32) (M : Mm) : Option Rs := if bM x = false ∧ okA (M.1 2) x = true then some (.inl (none, k_r2 M (stR (M.1 2) x))) else none
def T36b (ad : Nat → Nat) (res : Rs) : Tr := (tt_al 0 (tt_gr ad 6 7 (tt_c 5 (tt_dup2 (tt_ia ad 7 395 2 (tt_il 2 (tt_add (tt_st ad 7 395 2 (tt_al 0 (tt_gr ad 6 7 (tt_c 6 (tt_dup2 (tt_ia ad 7 395 2 (tt_il 3 (tt_add (tt_st ad 7 395 2 (tt_al 0 (tt_gr ad 6 7 (tt_c 7 (tt_dup2 (tt_ia ad 7 395 2 (tt_il 4 (tt_add (tt_st ad 7 395 2 (tt_vr res)))))))))))))))))))))))))
theorem T36_eq (ad : Nat → Nat) (res : Rs) (F P G : Sp) : T_X4_sendTo_36 ad res F P G = (tt_is 4 (tt_al 0 (tt_il 1 (tt_c 5 (tt_al 0 (tt_il 1 (tt_c 5 (tt_cv ad 6 2 F (tt_il 2 (tt_add (tt_cv ad 6 3 G (tt_al 0 (tt_il 1 (tt_c 6 (tt_al 0 (tt_il 1 (tt_c 6 (tt_cv ad 6 2 F (tt_il 3 (tt_add (tt_cv ad 6 3 G (tt_al 0 (tt_il 1 (tt_c 7 (tt_al 0 (tt_il 1 (tt_c 7 (tt_cv ad 6 2 F (tt_il 4 (tt_add (tt_cv ad 6 3 G (T36b ad res)))))))))))))))))))))))))))))))) := rfl
theorem T36b_ok (ad : Nat → Nat) (M : Mm) (m : Re) (x n h ms : Int32) : T36b ad (.inl (none, k_r2 M (addM (addM (addM m 5 n) 6 h) 7 ms))) [some (.ref (ad 6)), some (.int x), some (.int n), some (.int h), some (.int ms)] [] (k_r2 M m) := by
  simp only [T36b, tt_c, tt_lc, tt_il, tt_ll, tt_al, tt_is, tt_lsv, tt_as, tt_inc, tt_add, tt_sub, tt_mul, tt_and, tt_ladd, tt_lmul, tt_i2l, tt_lcmp, tt_dupr, tt_dup2, tt_eq0, tt_lt0, tt_le0, tt_ge0, tt_gt0, tt_eq2, tt_lt2, tt_ge2, tt_gt2, tt_le2, tt_gr, tt_gi, tt_pi, tt_gl, tt_pl, tt_ia, tt_st, tt_ir, tt_zr, tt_lr, tt_vr, tt_cv, tt_cs, tt_max, tt_min, tt_rem, tt_xor, tt_len, tt_cp, tt_thr, tt_xv, tt_xs, k_sv, k_cl, k_kz, List.getElem?_cons_zero, List.getElem?_cons_succ, List.drop_succ_cons, List.drop_zero, List.take_succ_cons, List.take_zero, List.reverse_cons, List.reverse_nil, List.nil_append, List.cons_append, List.length_cons, List.length_nil, Option.toList_some, Option.toList_none, Nat.reduceAdd, Nat.reduceLeDiff, true_and, and_true, sp_I, sp_II, sp_III, sp_J, sp_JI, sp_JJ, sp_R2, sp_R5I, sp_V, k_r2_2, k_r2_r, k_up2, vi_5, vi_6, vi_7, cl_5, cl_6, cl_7, addM_def, true_and]
theorem T36_ok (ad : Nat → Nat) (M : Mm) (x n h ms : Int32) (hx : bM x = false) : T_X4_sendTo_36 ad (.inl (none, k_r2 M (stX (M.1 2) x n h ms))) (sp_II fr_of) (sp_II fr_piecesOf) (sp_III fr_put) [some (.ref (ad 6)), some (.int x), some (.int n), some (.int h), none] [.int ms] M := by
  simp only [T36_eq, tt_c, tt_lc, tt_il, tt_ll, tt_al, tt_is, tt_lsv, tt_as, tt_inc, tt_add, tt_sub, tt_mul, tt_and, tt_ladd, tt_lmul, tt_i2l, tt_lcmp, tt_dupr, tt_dup2, tt_eq0, tt_lt0, tt_le0, tt_ge0, tt_gt0, tt_eq2, tt_lt2, tt_ge2, tt_gt2, tt_le2, tt_gr, tt_gi, tt_pi, tt_gl, tt_pl, tt_ia, tt_st, tt_ir, tt_zr, tt_lr, tt_vr, tt_cv, tt_cs, tt_max, tt_min, tt_rem, tt_xor, tt_len, tt_cp, tt_thr, tt_xv, tt_xs, k_sv, k_cl, k_kz, List.getElem?_cons_zero, List.getElem?_cons_succ, List.drop_succ_cons, List.drop_zero, List.take_succ_cons, List.take_zero, List.reverse_cons, List.reverse_nil, List.nil_append, List.cons_append, List.length_cons, List.length_nil, Option.toList_some, Option.toList_none, Nat.reduceAdd, Nat.reduceLeDiff, true_and, and_true, sp_I, sp_II, sp_III, sp_J, sp_JI, sp_JJ, sp_R2, sp_R5I, sp_V, fr_of, fr_put, hx, bW_5, bW_6, bW_7, and_self, if_true, k_r2_2, k_r2_r, addR_def]
  exact T36b_ok ad M _ x n h ms
theorem pr_sendTo (ad : Nat → Nat) (x0 : Int32) (M : Mm) (r : Rs) (h : fr_sendTo x0 M = some r) : T_X4_sendTo_0 ad r (sp_II fr_of) (sp_II fr_piecesOf) (sp_III fr_put) [some (.ref (ad 6)), some (.int x0), none, none, none] [] M := by
  unfold fr_sendTo at h
  split at h
  · next hg =>
    cases h
    obtain ⟨hx, hok⟩ := hg
    have key : ∀ (n hs ms : Int32), T_X4_sendTo_36 ad (.inl (none, k_r2 M (stX (M.1 2) x0 n hs ms))) (sp_II fr_of) (sp_II fr_piecesOf) (sp_III fr_put) [some (.ref (ad 6)), some (.int x0), some (.int n), some (.int hs), none] [.int ms] M := fun n hs ms => T36_ok ad M x0 n hs ms hx
    simp only [T_X4_sendTo_0, T_X4_sendTo_17, T_X4_sendTo_35, tt_c, tt_lc, tt_il, tt_ll, tt_al, tt_is, tt_lsv, tt_as, tt_inc, tt_add, tt_sub, tt_mul, tt_and, tt_ladd, tt_lmul, tt_i2l, tt_lcmp, tt_dupr, tt_dup2, tt_eq0, tt_lt0, tt_le0, tt_ge0, tt_gt0, tt_eq2, tt_lt2, tt_ge2, tt_gt2, tt_le2, tt_gr, tt_gi, tt_pi, tt_gl, tt_pl, tt_ia, tt_st, tt_ir, tt_zr, tt_lr, tt_vr, tt_cv, tt_cs, tt_max, tt_min, tt_rem, tt_xor, tt_len, tt_cp, tt_thr, tt_xv, tt_xs, k_sv, k_cl, k_kz, List.getElem?_cons_zero, List.getElem?_cons_succ, List.drop_succ_cons, List.drop_zero, List.take_succ_cons, List.take_zero, List.reverse_cons, List.reverse_nil, List.nil_append, List.cons_append, List.length_cons, List.length_nil, Option.toList_some, Option.toList_none, Nat.reduceAdd, Nat.reduceLeDiff, true_and, and_true, sp_I, sp_II, sp_III, sp_J, sp_JI, sp_JJ, sp_R2, sp_R5I, sp_V, fr_piecesOf, fr_of, hx, bW_3, hok, show ¬ (-1 : Int32) = 100 by decide, not_false_eq_true, and_self, if_true, kc_43, kc_1, kc_42, kc_L, z_10, z_20, z_30, z_00, bI_t, bI_f, if_true, if_false, Bool.false_eq_true, Bool.true_eq_false, not_true_eq_false, not_false_eq_true, false_implies, true_implies, and_self, true_and, and_true, and_false, false_and, reduceCtorEq]
    refine ⟨fun c1 => ⟨fun c2 => ?_, fun c2 => ?_⟩, fun c1 => ?_⟩
    · have := key (prR (M.1 2) x0 (-1)) 0 1
      rw [stR, shI, smI, if_pos c1, if_pos c1, if_pos c2]
      exact this
    · have := key (prR (M.1 2) x0 (-1)) 0 0
      rw [stR, shI, smI, if_pos c1, if_pos c1, if_neg c2]
      exact this
    · have := key (prR (M.1 2) x0 (-1)) 1 0
      rw [stR, shI, smI, if_neg c1, if_neg c1]
      exact this
  · cases h
def tnF (x : Nat) (m : Re) : Option Re := if jR m (nI x) = true then (if oR m (nI x) 3 = 1 then (if oR m (nI x) 4 = m 2 then aaO (goR (addM m 8 1) (nI x)) else some m) else some m) else some m
def tsF (x : Nat) (m : Re) : Option Re := if jR m (nI x) = true then (if okA m (nI x) = true then some (stR m (nI x)) else none) else some m
def tsO (m : Re) : Option Re := goO tsF 32 0 (addM m 4 1)
def toO (m : Re) : Option Re := (goO tnF 32 0 (addM m 2 1)).bind tsO
def fr_tickOne (M : Mm) : Option Rs := (toO (M.1 2)).map (fun m => .inl (none, k_r2 M m))
theorem pr_tickOne (ad : Nat → Nat) (M : Mm) (r : Rs) (h : fr_tickOne M = some r) : T_X4_tickOne_0 ad r (sp_I fr_goes) (sp_I fr_isJoined) (sp_II fr_of) (sp_I fr_sendTo) [some (.ref (ad 6)), none] [] M := by
  obtain ⟨mf, hmf, rfl⟩ := Option.map_eq_some_iff.mp h
  obtain ⟨m1, hm1, hm2⟩ := Option.bind_eq_some_iff.mp hmf
  simp only [T_X4_tickOne_0, tt_c, tt_lc, tt_il, tt_ll, tt_al, tt_is, tt_lsv, tt_as, tt_inc, tt_add, tt_sub, tt_mul, tt_and, tt_ladd, tt_lmul, tt_i2l, tt_lcmp, tt_dupr, tt_dup2, tt_eq0, tt_lt0, tt_le0, tt_ge0, tt_gt0, tt_eq2, tt_lt2, tt_ge2, tt_gt2, tt_le2, tt_gr, tt_gi, tt_pi, tt_gl, tt_pl, tt_ia, tt_st, tt_ir, tt_zr, tt_lr, tt_vr, tt_cv, tt_cs, tt_max, tt_min, tt_rem, tt_xor, tt_len, tt_cp, tt_thr, tt_xv, tt_xs, k_sv, k_cl, k_kz, List.getElem?_cons_zero, List.getElem?_cons_succ, List.drop_succ_cons, List.drop_zero, List.take_succ_cons, List.take_zero, List.reverse_cons, List.reverse_nil, List.nil_append, List.cons_append, List.length_cons, List.length_nil, Option.toList_some, Option.toList_none, Nat.reduceAdd, Nat.reduceLeDiff, true_and, and_true, sp_I, sp_II, sp_III, sp_J, sp_JI, sp_JJ, sp_R2, sp_R5I, sp_V, vi_2, cl_2, true_and, k_up2]
  refine lp_of (σ := Nat × Nat × Re) (fun q => q.1 + q.2.1 = 32 ∧ goO tnF q.1 q.2.1 q.2.2 = some m1) (fun q => [some (.ref (ad 6)), some (.int (nI q.2.1))]) (fun q => k_r2 M q.2.2) (fun q => q.1) ?_ (32, 0, addM (M.1 2) 2 1) ⟨rfl, hm1⟩
  rintro k ⟨n, j, m⟩ ⟨hj, hd⟩ hk
  dsimp only at hj hd
  simp only [T_X4_tickOne_12, T_X4_tickOne_67, tt_c, tt_lc, tt_il, tt_ll, tt_al, tt_is, tt_lsv, tt_as, tt_inc, tt_add, tt_sub, tt_mul, tt_and, tt_ladd, tt_lmul, tt_i2l, tt_lcmp, tt_dupr, tt_dup2, tt_eq0, tt_lt0, tt_le0, tt_ge0, tt_gt0, tt_eq2, tt_lt2, tt_ge2, tt_gt2, tt_le2, tt_gr, tt_gi, tt_pi, tt_gl, tt_pl, tt_ia, tt_st, tt_ir, tt_zr, tt_lr, tt_vr, tt_cv, tt_cs, tt_max, tt_min, tt_rem, tt_xor, tt_len, tt_cp, tt_thr, tt_xv, tt_xs, k_sv, k_cl, k_kz, List.getElem?_cons_zero, List.getElem?_cons_succ, List.drop_succ_cons, List.drop_zero, List.take_succ_cons, List.take_zero, List.reverse_cons, List.reverse_nil, List.nil_append, List.cons_append, List.length_cons, List.length_nil, Option.toList_some, Option.toList_none, Nat.reduceAdd, Nat.reduceLeDiff, true_and, and_true, sp_I, sp_II, sp_III, sp_J, sp_JI, sp_JJ, sp_R2, sp_R5I, sp_V, ge32 (show j ≤ 32 by omega)]
  refine ⟨fun c1 => ?_, fun c1 => ?_⟩
  · have hn : n = 0 := by omega
    subst hn
    cases hd
    simp only [tt_c, tt_lc, tt_il, tt_ll, tt_al, tt_is, tt_lsv, tt_as, tt_inc, tt_add, tt_sub, tt_mul, tt_and, tt_ladd, tt_lmul, tt_i2l, tt_lcmp, tt_dupr, tt_dup2, tt_eq0, tt_lt0, tt_le0, tt_ge0, tt_gt0, tt_eq2, tt_lt2, tt_ge2, tt_gt2, tt_le2, tt_gr, tt_gi, tt_pi, tt_gl, tt_pl, tt_ia, tt_st, tt_ir, tt_zr, tt_lr, tt_vr, tt_cv, tt_cs, tt_max, tt_min, tt_rem, tt_xor, tt_len, tt_cp, tt_thr, tt_xv, tt_xs, k_sv, k_cl, k_kz, List.getElem?_cons_zero, List.getElem?_cons_succ, List.drop_succ_cons, List.drop_zero, List.take_succ_cons, List.take_zero, List.reverse_cons, List.reverse_nil, List.nil_append, List.cons_append, List.length_cons, List.length_nil, Option.toList_some, Option.toList_none, Nat.reduceAdd, Nat.reduceLeDiff, true_and, and_true, sp_I, sp_II, sp_III, sp_J, sp_JI, sp_JJ, sp_R2, sp_R5I, sp_V, vi_4, cl_4, true_and, k_up2, k_r2_2, k_r2_r]
    refine lp_of (σ := Nat × Nat × Re) (fun q => q.1 + q.2.1 = 32 ∧ goO tsF q.1 q.2.1 q.2.2 = some mf) (fun q => [some (.ref (ad 6)), some (.int (nI q.2.1))]) (fun q => k_r2 M q.2.2) (fun q => q.1) ?_ (32, 0, addM m1 4 1) ⟨rfl, hm2⟩
    rintro k2 ⟨n2, i, m2⟩ ⟨hi, hd2⟩ hk2
    dsimp only at hi hd2
    simp only [T_X4_tickOne_85, T_X4_tickOne_104, tt_c, tt_lc, tt_il, tt_ll, tt_al, tt_is, tt_lsv, tt_as, tt_inc, tt_add, tt_sub, tt_mul, tt_and, tt_ladd, tt_lmul, tt_i2l, tt_lcmp, tt_dupr, tt_dup2, tt_eq0, tt_lt0, tt_le0, tt_ge0, tt_gt0, tt_eq2, tt_lt2, tt_ge2, tt_gt2, tt_le2, tt_gr, tt_gi, tt_pi, tt_gl, tt_pl, tt_ia, tt_st, tt_ir, tt_zr, tt_lr, tt_vr, tt_cv, tt_cs, tt_max, tt_min, tt_rem, tt_xor, tt_len, tt_cp, tt_thr, tt_xv, tt_xs, k_sv, k_cl, k_kz, List.getElem?_cons_zero, List.getElem?_cons_succ, List.drop_succ_cons, List.drop_zero, List.take_succ_cons, List.take_zero, List.reverse_cons, List.reverse_nil, List.nil_append, List.cons_append, List.length_cons, List.length_nil, Option.toList_some, Option.toList_none, Nat.reduceAdd, Nat.reduceLeDiff, true_and, and_true, sp_I, sp_II, sp_III, sp_J, sp_JI, sp_JJ, sp_R2, sp_R5I, sp_V, ge32 (show i ≤ 32 by omega)]
    refine ⟨fun c2 => ?_, fun c2 => ?_⟩
    · have hn : n2 = 0 := by omega
      subst hn
      cases hd2
      rfl
    · obtain ⟨n2, rfl⟩ : ∃ n', n2 = n' + 1 := ⟨n2 - 1, by omega⟩
      rw [goO] at hd2
      obtain ⟨m3, hm3, hd2⟩ := Option.bind_eq_some_iff.mp hd2
      have hM := bM_n (show i < 32 by omega)
      have hk3 := hk2 (n2, i + 1, m3) ⟨by dsimp only; omega, hd2⟩ (by dsimp only; omega)
      simp only [nI_succ] at hk3
      simp only [fr_isJoined, k_r2_2, hM, if_true, tt_c, tt_lc, tt_il, tt_ll, tt_al, tt_is, tt_lsv, tt_as, tt_inc, tt_add, tt_sub, tt_mul, tt_and, tt_ladd, tt_lmul, tt_i2l, tt_lcmp, tt_dupr, tt_dup2, tt_eq0, tt_lt0, tt_le0, tt_ge0, tt_gt0, tt_eq2, tt_lt2, tt_ge2, tt_gt2, tt_le2, tt_gr, tt_gi, tt_pi, tt_gl, tt_pl, tt_ia, tt_st, tt_ir, tt_zr, tt_lr, tt_vr, tt_cv, tt_cs, tt_max, tt_min, tt_rem, tt_xor, tt_len, tt_cp, tt_thr, tt_xv, tt_xs, k_sv, k_cl, k_kz, List.getElem?_cons_zero, List.getElem?_cons_succ, List.drop_succ_cons, List.drop_zero, List.take_succ_cons, List.take_zero, List.reverse_cons, List.reverse_nil, List.nil_append, List.cons_append, List.length_cons, List.length_nil, Option.toList_some, Option.toList_none, Nat.reduceAdd, Nat.reduceLeDiff, true_and, and_true, sp_I, sp_II, sp_III, sp_J, sp_JI, sp_JJ, sp_R2, sp_R5I, sp_V, bI_0]
      refine ⟨fun c3 => ?_, fun c3 => ?_⟩
      · simp only [tsF, c3, Bool.false_eq_true, if_false] at hm3
        cases hm3
        exact hk3
      · simp only [Bool.not_eq_false] at c3
        simp only [tsF, c3, if_true] at hm3
        split at hm3
        · next hok =>
          cases hm3
          simp only [fr_sendTo, k_r2_2, k_r2_r, hM, hok, and_self, if_true, tt_c, tt_lc, tt_il, tt_ll, tt_al, tt_is, tt_lsv, tt_as, tt_inc, tt_add, tt_sub, tt_mul, tt_and, tt_ladd, tt_lmul, tt_i2l, tt_lcmp, tt_dupr, tt_dup2, tt_eq0, tt_lt0, tt_le0, tt_ge0, tt_gt0, tt_eq2, tt_lt2, tt_ge2, tt_gt2, tt_le2, tt_gr, tt_gi, tt_pi, tt_gl, tt_pl, tt_ia, tt_st, tt_ir, tt_zr, tt_lr, tt_vr, tt_cv, tt_cs, tt_max, tt_min, tt_rem, tt_xor, tt_len, tt_cp, tt_thr, tt_xv, tt_xs, k_sv, k_cl, k_kz, List.getElem?_cons_zero, List.getElem?_cons_succ, List.drop_succ_cons, List.drop_zero, List.take_succ_cons, List.take_zero, List.reverse_cons, List.reverse_nil, List.nil_append, List.cons_append, List.length_cons, List.length_nil, Option.toList_some, Option.toList_none, Nat.reduceAdd, Nat.reduceLeDiff, true_and, and_true, sp_I, sp_II, sp_III, sp_J, sp_JI, sp_JJ, sp_R2, sp_R5I, sp_V]
          exact hk3
        · cases hm3
  · obtain ⟨n, rfl⟩ : ∃ n', n = n' + 1 := ⟨n - 1, by omega⟩
    rw [goO] at hd
    obtain ⟨m3, hm3, hd⟩ := Option.bind_eq_some_iff.mp hd
    have hM := bM_n (show j < 32 by omega)
    have hk3 := hk (n, j + 1, m3) ⟨by dsimp only; omega, hd⟩ (by dsimp only; omega)
    simp only [nI_succ] at hk3
    simp only [fr_isJoined, k_r2_2, hM, if_true, tt_c, tt_lc, tt_il, tt_ll, tt_al, tt_is, tt_lsv, tt_as, tt_inc, tt_add, tt_sub, tt_mul, tt_and, tt_ladd, tt_lmul, tt_i2l, tt_lcmp, tt_dupr, tt_dup2, tt_eq0, tt_lt0, tt_le0, tt_ge0, tt_gt0, tt_eq2, tt_lt2, tt_ge2, tt_gt2, tt_le2, tt_gr, tt_gi, tt_pi, tt_gl, tt_pl, tt_ia, tt_st, tt_ir, tt_zr, tt_lr, tt_vr, tt_cv, tt_cs, tt_max, tt_min, tt_rem, tt_xor, tt_len, tt_cp, tt_thr, tt_xv, tt_xs, k_sv, k_cl, k_kz, List.getElem?_cons_zero, List.getElem?_cons_succ, List.drop_succ_cons, List.drop_zero, List.take_succ_cons, List.take_zero, List.reverse_cons, List.reverse_nil, List.nil_append, List.cons_append, List.length_cons, List.length_nil, Option.toList_some, Option.toList_none, Nat.reduceAdd, Nat.reduceLeDiff, true_and, and_true, sp_I, sp_II, sp_III, sp_J, sp_JI, sp_JJ, sp_R2, sp_R5I, sp_V, bI_0]
    refine ⟨fun c3 => ?_, fun c3 => ?_⟩
    · simp only [tnF, c3, Bool.false_eq_true, if_false] at hm3
      cases hm3
      exact hk3
    · simp only [Bool.not_eq_false] at c3
      simp only [tnF, c3, if_true] at hm3
      simp only [fr_of, k_r2_2, hM, bW_3, bW_4, and_self, if_true, tt_c, tt_lc, tt_il, tt_ll, tt_al, tt_is, tt_lsv, tt_as, tt_inc, tt_add, tt_sub, tt_mul, tt_and, tt_ladd, tt_lmul, tt_i2l, tt_lcmp, tt_dupr, tt_dup2, tt_eq0, tt_lt0, tt_le0, tt_ge0, tt_gt0, tt_eq2, tt_lt2, tt_ge2, tt_gt2, tt_le2, tt_gr, tt_gi, tt_pi, tt_gl, tt_pl, tt_ia, tt_st, tt_ir, tt_zr, tt_lr, tt_vr, tt_cv, tt_cs, tt_max, tt_min, tt_rem, tt_xor, tt_len, tt_cp, tt_thr, tt_xv, tt_xs, k_sv, k_cl, k_kz, List.getElem?_cons_zero, List.getElem?_cons_succ, List.drop_succ_cons, List.drop_zero, List.take_succ_cons, List.take_zero, List.reverse_cons, List.reverse_nil, List.nil_append, List.cons_append, List.length_cons, List.length_nil, Option.toList_some, Option.toList_none, Nat.reduceAdd, Nat.reduceLeDiff, true_and, and_true, sp_I, sp_II, sp_III, sp_J, sp_JI, sp_JJ, sp_R2, sp_R5I, sp_V, vi_2, cl_2, true_and]
      refine ⟨fun c4 => ⟨fun c5 => ?_, fun c5 => ?_⟩, fun c4 => ?_⟩
      · rw [if_pos c4, if_pos c5] at hm3
        simp only [vi_8, cl_8, true_and, k_up2, k_r2_2, k_r2_r, fr_goes, hM, if_true, tt_c, tt_lc, tt_il, tt_ll, tt_al, tt_is, tt_lsv, tt_as, tt_inc, tt_add, tt_sub, tt_mul, tt_and, tt_ladd, tt_lmul, tt_i2l, tt_lcmp, tt_dupr, tt_dup2, tt_eq0, tt_lt0, tt_le0, tt_ge0, tt_gt0, tt_eq2, tt_lt2, tt_ge2, tt_gt2, tt_le2, tt_gr, tt_gi, tt_pi, tt_gl, tt_pl, tt_ia, tt_st, tt_ir, tt_zr, tt_lr, tt_vr, tt_cv, tt_cs, tt_max, tt_min, tt_rem, tt_xor, tt_len, tt_cp, tt_thr, tt_xv, tt_xs, k_sv, k_cl, k_kz, List.getElem?_cons_zero, List.getElem?_cons_succ, List.drop_succ_cons, List.drop_zero, List.take_succ_cons, List.take_zero, List.reverse_cons, List.reverse_nil, List.nil_append, List.cons_append, List.length_cons, List.length_nil, Option.toList_some, Option.toList_none, Nat.reduceAdd, Nat.reduceLeDiff, true_and, and_true, sp_I, sp_II, sp_III, sp_J, sp_JI, sp_JJ, sp_R2, sp_R5I, sp_V]
        have hm3' : aaO (goR (upd m 8 (m 8 + 1)) (nI j)) = some m3 := hm3
        simp only [hm3', Option.map_some, k_r2_r, tt_c, tt_lc, tt_il, tt_ll, tt_al, tt_is, tt_lsv, tt_as, tt_inc, tt_add, tt_sub, tt_mul, tt_and, tt_ladd, tt_lmul, tt_i2l, tt_lcmp, tt_dupr, tt_dup2, tt_eq0, tt_lt0, tt_le0, tt_ge0, tt_gt0, tt_eq2, tt_lt2, tt_ge2, tt_gt2, tt_le2, tt_gr, tt_gi, tt_pi, tt_gl, tt_pl, tt_ia, tt_st, tt_ir, tt_zr, tt_lr, tt_vr, tt_cv, tt_cs, tt_max, tt_min, tt_rem, tt_xor, tt_len, tt_cp, tt_thr, tt_xv, tt_xs, k_sv, k_cl, k_kz, List.getElem?_cons_zero, List.getElem?_cons_succ, List.drop_succ_cons, List.drop_zero, List.take_succ_cons, List.take_zero, List.reverse_cons, List.reverse_nil, List.nil_append, List.cons_append, List.length_cons, List.length_nil, Option.toList_some, Option.toList_none, Nat.reduceAdd, Nat.reduceLeDiff, true_and, and_true, sp_I, sp_II, sp_III, sp_J, sp_JI, sp_JJ, sp_R2, sp_R5I, sp_V]
        exact hk3
      · rw [if_pos c4, if_neg c5] at hm3
        cases hm3
        exact hk3
      · rw [if_neg c4] at hm3
        cases hm3
        exact hk3
def tkG (_ : Nat) (m : Re) : Option Re := toO m
def fr_tick (n : Int32) (M : Mm) : Option Rs := qK (if bR n 1 200 = true then 1 else 0) ((goO tkG n.toNatClampNeg 0 (M.1 2)).map (fun m => (m 7 - M.1 2 7, m))) M
theorem pr_tick (ad : Nat → Nat) (x0 : Int32) (M : Mm) (r : Rs) (h : fr_tick x0 M = some r) : T_X4_tick_0 ad r (sp_III fr_in) (sp_V fr_keep) (sp_V fr_tickOne) [some (.ref (ad 6)), some (.int x0), none, none] [] M := by
  unfold fr_tick at h
  cases hr : bR x0 1 200 <;> simp only [hr, kc_43, kc_1, kc_42, kc_L, z_10, z_20, z_30, z_00, bI_t, bI_f, if_true, if_false, Bool.false_eq_true, Bool.true_eq_false, not_true_eq_false, not_false_eq_true, false_implies, true_implies, and_self, true_and, and_true, and_false, false_and, reduceCtorEq] at h <;>
    first | have h0 := qK_1 h | (obtain ⟨hg, v, m, hq, h0⟩ := qK_0 h)
  all_goals
    subst h0
    simp only [T_X4_tick_0, T_X4_tick_17, tt_c, tt_lc, tt_il, tt_ll, tt_al, tt_is, tt_lsv, tt_as, tt_inc, tt_add, tt_sub, tt_mul, tt_and, tt_ladd, tt_lmul, tt_i2l, tt_lcmp, tt_dupr, tt_dup2, tt_eq0, tt_lt0, tt_le0, tt_ge0, tt_gt0, tt_eq2, tt_lt2, tt_ge2, tt_gt2, tt_le2, tt_gr, tt_gi, tt_pi, tt_gl, tt_pl, tt_ia, tt_st, tt_ir, tt_zr, tt_lr, tt_vr, tt_cv, tt_cs, tt_max, tt_min, tt_rem, tt_xor, tt_len, tt_cp, tt_thr, tt_xv, tt_xs, k_sv, k_cl, k_kz, List.getElem?_cons_zero, List.getElem?_cons_succ, List.drop_succ_cons, List.drop_zero, List.take_succ_cons, List.take_zero, List.reverse_cons, List.reverse_nil, List.nil_append, List.cons_append, List.length_cons, List.length_nil, Option.toList_some, Option.toList_none, Nat.reduceAdd, Nat.reduceLeDiff, true_and, and_true, sp_I, sp_II, sp_III, sp_J, sp_JI, sp_JJ, sp_R2, sp_R5I, sp_V, kc_43, kc_1, kc_42, kc_L, z_10, z_20, z_30, z_00, bI_t, bI_f, if_true, if_false, Bool.false_eq_true, Bool.true_eq_false, not_true_eq_false, not_false_eq_true, false_implies, true_implies, and_self, true_and, and_true, and_false, false_and, reduceCtorEq, fr_in, fr_keep, hr, Bool.not_true, Bool.not_false, kc_def]
  obtain ⟨m1, hm1, he⟩ := Option.map_eq_some_iff.mp hq
  cases he
  have hr' : ¬ x0 < 0 ∧ x0 ≤ 200 := by
    simp only [bR, Bool.or_eq_false_iff, decide_eq_false_iff_not, Decidable.not_not] at hr
    refine ⟨?_, hr.2⟩
    have h1 := Int32.not_lt.mp hr.1
    rw [Int32.le_iff_toInt_le] at h1
    rw [Int32.lt_iff_toInt_lt]
    have h2 : (1 : Int32).toInt = 1 := rfl
    have h3 : (0 : Int32).toInt = 0 := rfl
    omega
  obtain ⟨t, ht, rfl⟩ := nI_of2 (n := 200) rfl hr'.1 hr'.2
  rw [nI_clamp (by omega)] at hm1
  simp only [hg, if_true, tt_c, tt_lc, tt_il, tt_ll, tt_al, tt_is, tt_lsv, tt_as, tt_inc, tt_add, tt_sub, tt_mul, tt_and, tt_ladd, tt_lmul, tt_i2l, tt_lcmp, tt_dupr, tt_dup2, tt_eq0, tt_lt0, tt_le0, tt_ge0, tt_gt0, tt_eq2, tt_lt2, tt_ge2, tt_gt2, tt_le2, tt_gr, tt_gi, tt_pi, tt_gl, tt_pl, tt_ia, tt_st, tt_ir, tt_zr, tt_lr, tt_vr, tt_cv, tt_cs, tt_max, tt_min, tt_rem, tt_xor, tt_len, tt_cp, tt_thr, tt_xv, tt_xs, k_sv, k_cl, k_kz, List.getElem?_cons_zero, List.getElem?_cons_succ, List.drop_succ_cons, List.drop_zero, List.take_succ_cons, List.take_zero, List.reverse_cons, List.reverse_nil, List.nil_append, List.cons_append, List.length_cons, List.length_nil, Option.toList_some, Option.toList_none, Nat.reduceAdd, Nat.reduceLeDiff, true_and, and_true, sp_I, sp_II, sp_III, sp_J, sp_JI, sp_JJ, sp_R2, sp_R5I, sp_V, keM_2, kc_1, vi_7, cl_7, true_and]
  refine k_eqM (show k_r2 (keM (kc M 0)) (M.1 2) = _ from (congrArg (k_r2 (keM (kc M 0))) (keM_2 (kc M 0)).symm).trans (k_r2_s _)) (lp_of (σ := Nat × Nat × Re) (fun q => q.1 + q.2.1 = t ∧ goO tkG q.1 q.2.1 q.2.2 = some m) (fun q => [some (.ref (ad 6)), some (.int (nI t)), some (.int (M.1 2 7)), some (.int (nI q.2.1))]) (fun q => k_r2 (keM (kc M 0)) q.2.2) (fun q => q.1) ?_ (t, 0, M.1 2) ⟨Nat.add_zero t, hm1⟩)
  rintro k ⟨n, j, m3⟩ ⟨hj, hd⟩ hk
  dsimp only at hj hd
  simp only [T_X4_tick_43, tt_c, tt_lc, tt_il, tt_ll, tt_al, tt_is, tt_lsv, tt_as, tt_inc, tt_add, tt_sub, tt_mul, tt_and, tt_ladd, tt_lmul, tt_i2l, tt_lcmp, tt_dupr, tt_dup2, tt_eq0, tt_lt0, tt_le0, tt_ge0, tt_gt0, tt_eq2, tt_lt2, tt_ge2, tt_gt2, tt_le2, tt_gr, tt_gi, tt_pi, tt_gl, tt_pl, tt_ia, tt_st, tt_ir, tt_zr, tt_lr, tt_vr, tt_cv, tt_cs, tt_max, tt_min, tt_rem, tt_xor, tt_len, tt_cp, tt_thr, tt_xv, tt_xs, k_sv, k_cl, k_kz, List.getElem?_cons_zero, List.getElem?_cons_succ, List.drop_succ_cons, List.drop_zero, List.take_succ_cons, List.take_zero, List.reverse_cons, List.reverse_nil, List.nil_append, List.cons_append, List.length_cons, List.length_nil, Option.toList_some, Option.toList_none, Nat.reduceAdd, Nat.reduceLeDiff, true_and, and_true, sp_I, sp_II, sp_III, sp_J, sp_JI, sp_JJ, sp_R2, sp_R5I, sp_V]
  rw [nI_leI (by omega) (by omega)]
  refine ⟨fun c1 => ?_, fun c1 => ?_⟩
  · have hn : n = 0 := by omega
    subst hn
    cases hd
    simp only [tt_c, tt_lc, tt_il, tt_ll, tt_al, tt_is, tt_lsv, tt_as, tt_inc, tt_add, tt_sub, tt_mul, tt_and, tt_ladd, tt_lmul, tt_i2l, tt_lcmp, tt_dupr, tt_dup2, tt_eq0, tt_lt0, tt_le0, tt_ge0, tt_gt0, tt_eq2, tt_lt2, tt_ge2, tt_gt2, tt_le2, tt_gr, tt_gi, tt_pi, tt_gl, tt_pl, tt_ia, tt_st, tt_ir, tt_zr, tt_lr, tt_vr, tt_cv, tt_cs, tt_max, tt_min, tt_rem, tt_xor, tt_len, tt_cp, tt_thr, tt_xv, tt_xs, k_sv, k_cl, k_kz, List.getElem?_cons_zero, List.getElem?_cons_succ, List.drop_succ_cons, List.drop_zero, List.take_succ_cons, List.take_zero, List.reverse_cons, List.reverse_nil, List.nil_append, List.cons_append, List.length_cons, List.length_nil, Option.toList_some, Option.toList_none, Nat.reduceAdd, Nat.reduceLeDiff, true_and, and_true, sp_I, sp_II, sp_III, sp_J, sp_JI, sp_JJ, sp_R2, sp_R5I, sp_V, vi_7, cl_7, true_and, k_r2_2]
  · obtain ⟨n, rfl⟩ : ∃ n', n = n' + 1 := ⟨n - 1, by omega⟩
    rw [goO] at hd
    obtain ⟨m4, hm4, hd⟩ := Option.bind_eq_some_iff.mp hd
    have hm4' : toO m3 = some m4 := hm4
    have hk3 := hk (n, j + 1, m4) ⟨by dsimp only; omega, hd⟩ (by dsimp only; omega)
    simp only [nI_succ] at hk3
    simp only [fr_tickOne, k_r2_2, hm4', Option.map_some, k_r2_r, tt_c, tt_lc, tt_il, tt_ll, tt_al, tt_is, tt_lsv, tt_as, tt_inc, tt_add, tt_sub, tt_mul, tt_and, tt_ladd, tt_lmul, tt_i2l, tt_lcmp, tt_dupr, tt_dup2, tt_eq0, tt_lt0, tt_le0, tt_ge0, tt_gt0, tt_eq2, tt_lt2, tt_ge2, tt_gt2, tt_le2, tt_gr, tt_gi, tt_pi, tt_gl, tt_pl, tt_ia, tt_st, tt_ir, tt_zr, tt_lr, tt_vr, tt_cv, tt_cs, tt_max, tt_min, tt_rem, tt_xor, tt_len, tt_cp, tt_thr, tt_xv, tt_xs, k_sv, k_cl, k_kz, List.getElem?_cons_zero, List.getElem?_cons_succ, List.drop_succ_cons, List.drop_zero, List.take_succ_cons, List.take_zero, List.reverse_cons, List.reverse_nil, List.nil_append, List.cons_append, List.length_cons, List.length_nil, Option.toList_some, Option.toList_none, Nat.reduceAdd, Nat.reduceLeDiff, true_and, and_true, sp_I, sp_II, sp_III, sp_J, sp_JI, sp_JJ, sp_R2, sp_R5I, sp_V]
    exact hk3
def kL (M : Mm) (h : Int64) : Mm := k_uL M 0 h
theorem kL_def (M : Mm) (h : Int64) : k_uL M 0 h = kL M h := rfl
theorem kL_0 (M : Mm) (h : Int64) : (kL M h).2 0 = h := by simp [kL, k_uL, vp_updL]
theorem kL_1 (M : Mm) (h : Int64) : (kL M h).1 = M.1 := rfl
theorem kL_L (M : Mm) (g h : Int64) : kL (kL M g) h = kL M h := by
  unfold kL k_uL
  congr 1
  funext j
  by_cases hj : j = 0 <;> simp [vp_updL, hj]
theorem kL_s (M : Mm) : kL M (M.2 0) = M := by
  obtain ⟨a, b⟩ := M
  unfold kL k_uL
  congr 1
  funext j
  by_cases hj : j = 0 <;> simp [vp_updL, hj]
def fr_mix (v : Int64) (M : Mm) : Option Rs := some (.inl (none, kL M (mxL (M.2 0) v)))
theorem pr_mix (ad : Nat → Nat) (x0 : Int64) (M : Mm) (r : Rs) (h : fr_mix x0 M = some r) : T_X4_mix_0 ad r [some (.ref (ad 6)), some (.long x0), none] [] M := by
  cases h
  simp only [T_X4_mix_0, tt_c, tt_lc, tt_il, tt_ll, tt_al, tt_is, tt_lsv, tt_as, tt_inc, tt_add, tt_sub, tt_mul, tt_and, tt_ladd, tt_lmul, tt_i2l, tt_lcmp, tt_dupr, tt_dup2, tt_eq0, tt_lt0, tt_le0, tt_ge0, tt_gt0, tt_eq2, tt_lt2, tt_ge2, tt_gt2, tt_le2, tt_gr, tt_gi, tt_pi, tt_gl, tt_pl, tt_ia, tt_st, tt_ir, tt_zr, tt_lr, tt_vr, tt_cv, tt_cs, tt_max, tt_min, tt_rem, tt_xor, tt_len, tt_cp, tt_thr, tt_xv, tt_xs, k_sv, k_cl, k_kz, List.getElem?_cons_zero, List.getElem?_cons_succ, List.drop_succ_cons, List.drop_zero, List.take_succ_cons, List.take_zero, List.reverse_cons, List.reverse_nil, List.nil_append, List.cons_append, List.length_cons, List.length_nil, Option.toList_some, Option.toList_none, Nat.reduceAdd, Nat.reduceLeDiff, true_and, and_true, sp_I, sp_II, sp_III, sp_J, sp_JI, sp_JJ, sp_R2, sp_R5I, sp_V, kL_def]
  rfl
def maR (m : Re) (x : Int32) (w : Nat) (h : Int64) : Int64 := mxL h (moR m x (nI w)).toInt64
def mbR (m : Re) (x : Int32) (s : Nat) (h : Int64) : Int64 := mxL (mxL (mxL (mxL h (oR m x (8 + nI s)).toInt64) (dR m x (nI s)).toInt64) (soR m x (nI s)).toInt64) (if rmR m x (nI s) = false then 0 else 1)
def mmR (m : Re) (h : Int64) (x : Int32) : Int64 := if jR m x = true then fold2 (mbR m x) (mxL (mxL (fold2 (maR m x) h 10) (hoR m x).toInt64) (prR m x (-1)).toInt64) 4 else fold2 (maR m x) h 10
def fr_mixMember (x : Int32) (M : Mm) : Option Rs := if bM x = false ∧ wA (M.1 2) = true then some (.inl (none, kL M (mmR (M.1 2) (M.2 0) x))) else none
theorem pr_mixMember (ad : Nat → Nat) (x0 : Int32) (M : Mm) (r : Rs) (h : fr_mixMember x0 M = some r) : T_X4_mixMember_0 ad r (sp_II fr_depthOf) (sp_I fr_harmOf) (sp_I fr_isJoined) (sp_II fr_isRoomy) (sp_II fr_memberOf) (sp_J fr_mix) (sp_II fr_of) (sp_II fr_piecesOf) (sp_II fr_subtreeOf) [some (.ref (ad 6)), some (.int x0), none] [] M := by
  unfold fr_mixMember at h
  split at h
  · next hg =>
    cases h
    obtain ⟨hx, hw⟩ := hg
    simp only [T_X4_mixMember_0, tt_c, tt_lc, tt_il, tt_ll, tt_al, tt_is, tt_lsv, tt_as, tt_inc, tt_add, tt_sub, tt_mul, tt_and, tt_ladd, tt_lmul, tt_i2l, tt_lcmp, tt_dupr, tt_dup2, tt_eq0, tt_lt0, tt_le0, tt_ge0, tt_gt0, tt_eq2, tt_lt2, tt_ge2, tt_gt2, tt_le2, tt_gr, tt_gi, tt_pi, tt_gl, tt_pl, tt_ia, tt_st, tt_ir, tt_zr, tt_lr, tt_vr, tt_cv, tt_cs, tt_max, tt_min, tt_rem, tt_xor, tt_len, tt_cp, tt_thr, tt_xv, tt_xs, k_sv, k_cl, k_kz, List.getElem?_cons_zero, List.getElem?_cons_succ, List.drop_succ_cons, List.drop_zero, List.take_succ_cons, List.take_zero, List.reverse_cons, List.reverse_nil, List.nil_append, List.cons_append, List.length_cons, List.length_nil, Option.toList_some, Option.toList_none, Nat.reduceAdd, Nat.reduceLeDiff, true_and, and_true, sp_I, sp_II, sp_III, sp_J, sp_JI, sp_JJ, sp_R2, sp_R5I, sp_V]
    refine k_eqM (show kL M (fold2 (maR (M.1 2) x0) (M.2 0) 0) = M by rw [fold2_0, kL_s]) (lp_of (σ := Nat) (fun j => j ≤ 10) (fun j => [some (.ref (ad 6)), some (.int x0), some (.int (nI j))]) (fun j => kL M (fold2 (maR (M.1 2) x0) (M.2 0) j)) (fun j => 10 - j) ?_ 0 (by omega))
    intro k j hj hk
    simp only [T_X4_mixMember_2, T_X4_mixMember_121, tt_c, tt_lc, tt_il, tt_ll, tt_al, tt_is, tt_lsv, tt_as, tt_inc, tt_add, tt_sub, tt_mul, tt_and, tt_ladd, tt_lmul, tt_i2l, tt_lcmp, tt_dupr, tt_dup2, tt_eq0, tt_lt0, tt_le0, tt_ge0, tt_gt0, tt_eq2, tt_lt2, tt_ge2, tt_gt2, tt_le2, tt_gr, tt_gi, tt_pi, tt_gl, tt_pl, tt_ia, tt_st, tt_ir, tt_zr, tt_lr, tt_vr, tt_cv, tt_cs, tt_max, tt_min, tt_rem, tt_xor, tt_len, tt_cp, tt_thr, tt_xv, tt_xs, k_sv, k_cl, k_kz, List.getElem?_cons_zero, List.getElem?_cons_succ, List.drop_succ_cons, List.drop_zero, List.take_succ_cons, List.take_zero, List.reverse_cons, List.reverse_nil, List.nil_append, List.cons_append, List.length_cons, List.length_nil, Option.toList_some, Option.toList_none, Nat.reduceAdd, Nat.reduceLeDiff, true_and, and_true, sp_I, sp_II, sp_III, sp_J, sp_JI, sp_JJ, sp_R2, sp_R5I, sp_V, ge10 hj]
    refine ⟨fun c1 => ?_, fun c1 => ?_⟩
    · subst c1
      simp only [fr_isJoined, kL_1, hx, if_true, tt_c, tt_lc, tt_il, tt_ll, tt_al, tt_is, tt_lsv, tt_as, tt_inc, tt_add, tt_sub, tt_mul, tt_and, tt_ladd, tt_lmul, tt_i2l, tt_lcmp, tt_dupr, tt_dup2, tt_eq0, tt_lt0, tt_le0, tt_ge0, tt_gt0, tt_eq2, tt_lt2, tt_ge2, tt_gt2, tt_le2, tt_gr, tt_gi, tt_pi, tt_gl, tt_pl, tt_ia, tt_st, tt_ir, tt_zr, tt_lr, tt_vr, tt_cv, tt_cs, tt_max, tt_min, tt_rem, tt_xor, tt_len, tt_cp, tt_thr, tt_xv, tt_xs, k_sv, k_cl, k_kz, List.getElem?_cons_zero, List.getElem?_cons_succ, List.drop_succ_cons, List.drop_zero, List.take_succ_cons, List.take_zero, List.reverse_cons, List.reverse_nil, List.nil_append, List.cons_append, List.length_cons, List.length_nil, Option.toList_some, Option.toList_none, Nat.reduceAdd, Nat.reduceLeDiff, true_and, and_true, sp_I, sp_II, sp_III, sp_J, sp_JI, sp_JJ, sp_R2, sp_R5I, sp_V, bI_0]
      refine ⟨fun c2 => ?_, fun c2 => ?_⟩
      · rw [mmR, if_neg (by simp [c2])]
      · simp only [Bool.not_eq_false] at c2
        rw [mmR, if_pos c2]
        obtain ⟨i, hi, rfl⟩ := bM_of hx
        have hok := wA_okA hw hi c2
        simp only [fr_harmOf, fr_mix, fr_piecesOf, kL_1, kL_0, kL_L, hx, hw, hok, show ¬ (-1 : Int32) = 100 by decide, not_false_eq_true, and_self, if_true, tt_c, tt_lc, tt_il, tt_ll, tt_al, tt_is, tt_lsv, tt_as, tt_inc, tt_add, tt_sub, tt_mul, tt_and, tt_ladd, tt_lmul, tt_i2l, tt_lcmp, tt_dupr, tt_dup2, tt_eq0, tt_lt0, tt_le0, tt_ge0, tt_gt0, tt_eq2, tt_lt2, tt_ge2, tt_gt2, tt_le2, tt_gr, tt_gi, tt_pi, tt_gl, tt_pl, tt_ia, tt_st, tt_ir, tt_zr, tt_lr, tt_vr, tt_cv, tt_cs, tt_max, tt_min, tt_rem, tt_xor, tt_len, tt_cp, tt_thr, tt_xv, tt_xs, k_sv, k_cl, k_kz, List.getElem?_cons_zero, List.getElem?_cons_succ, List.drop_succ_cons, List.drop_zero, List.take_succ_cons, List.take_zero, List.reverse_cons, List.reverse_nil, List.nil_append, List.cons_append, List.length_cons, List.length_nil, Option.toList_some, Option.toList_none, Nat.reduceAdd, Nat.reduceLeDiff, true_and, and_true, sp_I, sp_II, sp_III, sp_J, sp_JI, sp_JJ, sp_R2, sp_R5I, sp_V]
        refine k_eqM (congrArg (kL M) (fold2_0 (mbR (M.1 2) (nI i)) _)) (lp_of (σ := Nat) (fun j => j ≤ 4) (fun j => [some (.ref (ad 6)), some (.int (nI i)), some (.int (nI j))]) (fun j => kL M (fold2 (mbR (M.1 2) (nI i)) (mxL (mxL (fold2 (maR (M.1 2) (nI i)) (M.2 0) 10) (hoR (M.1 2) (nI i)).toInt64) (prR (M.1 2) (nI i) (-1)).toInt64) j)) (fun j => 4 - j) ?_ 0 (by omega))
        intro k2 a ha hk2
        simp only [T_X4_mixMember_56, T_X4_mixMember_112, T_X4_mixMember_121, tt_c, tt_lc, tt_il, tt_ll, tt_al, tt_is, tt_lsv, tt_as, tt_inc, tt_add, tt_sub, tt_mul, tt_and, tt_ladd, tt_lmul, tt_i2l, tt_lcmp, tt_dupr, tt_dup2, tt_eq0, tt_lt0, tt_le0, tt_ge0, tt_gt0, tt_eq2, tt_lt2, tt_ge2, tt_gt2, tt_le2, tt_gr, tt_gi, tt_pi, tt_gl, tt_pl, tt_ia, tt_st, tt_ir, tt_zr, tt_lr, tt_vr, tt_cv, tt_cs, tt_max, tt_min, tt_rem, tt_xor, tt_len, tt_cp, tt_thr, tt_xv, tt_xs, k_sv, k_cl, k_kz, List.getElem?_cons_zero, List.getElem?_cons_succ, List.drop_succ_cons, List.drop_zero, List.take_succ_cons, List.take_zero, List.reverse_cons, List.reverse_nil, List.nil_append, List.cons_append, List.length_cons, List.length_nil, Option.toList_some, Option.toList_none, Nat.reduceAdd, Nat.reduceLeDiff, true_and, and_true, sp_I, sp_II, sp_III, sp_J, sp_JI, sp_JJ, sp_R2, sp_R5I, sp_V, ge4 ha]
        refine ⟨fun c3 => ?_, fun c3 => ?_⟩
        · subst c3
          rfl
        · have hS := bS_n (show a < 4 by omega)
          have hk3 := hk2 (a + 1) (by omega) (by omega)
          rw [fold2_s, nI_succ] at hk3
          generalize fold2 (mbR (M.1 2) (nI i)) _ a = hh at hk3 ⊢
          simp only [mbR] at hk3
          simp only [fr_of, fr_mix, fr_depthOf, fr_subtreeOf, fr_isRoomy, kL_1, kL_0, kL_L, hx, hS, bW_8 hS, okA_at hok (show a < 4 by omega), wA_at hw (show a < 4 by omega), and_self, or_true, if_true, tt_c, tt_lc, tt_il, tt_ll, tt_al, tt_is, tt_lsv, tt_as, tt_inc, tt_add, tt_sub, tt_mul, tt_and, tt_ladd, tt_lmul, tt_i2l, tt_lcmp, tt_dupr, tt_dup2, tt_eq0, tt_lt0, tt_le0, tt_ge0, tt_gt0, tt_eq2, tt_lt2, tt_ge2, tt_gt2, tt_le2, tt_gr, tt_gi, tt_pi, tt_gl, tt_pl, tt_ia, tt_st, tt_ir, tt_zr, tt_lr, tt_vr, tt_cv, tt_cs, tt_max, tt_min, tt_rem, tt_xor, tt_len, tt_cp, tt_thr, tt_xv, tt_xs, k_sv, k_cl, k_kz, List.getElem?_cons_zero, List.getElem?_cons_succ, List.drop_succ_cons, List.drop_zero, List.take_succ_cons, List.take_zero, List.reverse_cons, List.reverse_nil, List.nil_append, List.cons_append, List.length_cons, List.length_nil, Option.toList_some, Option.toList_none, Nat.reduceAdd, Nat.reduceLeDiff, true_and, and_true, sp_I, sp_II, sp_III, sp_J, sp_JI, sp_JJ, sp_R2, sp_R5I, sp_V, bI_0]
          refine ⟨fun c4 => ?_, fun c4 => ?_⟩
          · rw [if_pos c4] at hk3
            exact hk3
          · rw [if_neg c4] at hk3
            exact hk3
    · have hk1 := hk (j + 1) (by omega) (by omega)
      rw [fold2_s, nI_succ] at hk1
      simp only [fr_memberOf, fr_mix, kL_1, kL_0, kL_L, hx, show bR (nI j) 0 9 = false from bR_n (n := 9) (by omega) (by omega), and_self, if_true, tt_c, tt_lc, tt_il, tt_ll, tt_al, tt_is, tt_lsv, tt_as, tt_inc, tt_add, tt_sub, tt_mul, tt_and, tt_ladd, tt_lmul, tt_i2l, tt_lcmp, tt_dupr, tt_dup2, tt_eq0, tt_lt0, tt_le0, tt_ge0, tt_gt0, tt_eq2, tt_lt2, tt_ge2, tt_gt2, tt_le2, tt_gr, tt_gi, tt_pi, tt_gl, tt_pl, tt_ia, tt_st, tt_ir, tt_zr, tt_lr, tt_vr, tt_cv, tt_cs, tt_max, tt_min, tt_rem, tt_xor, tt_len, tt_cp, tt_thr, tt_xv, tt_xs, k_sv, k_cl, k_kz, List.getElem?_cons_zero, List.getElem?_cons_succ, List.drop_succ_cons, List.drop_zero, List.take_succ_cons, List.take_zero, List.reverse_cons, List.reverse_nil, List.nil_append, List.cons_append, List.length_cons, List.length_nil, Option.toList_some, Option.toList_none, Nat.reduceAdd, Nat.reduceLeDiff, true_and, and_true, sp_I, sp_II, sp_III, sp_J, sp_JI, sp_JJ, sp_R2, sp_R5I, sp_V]
      exact hk1
  · cases h
def daR (m : Re) (x : Nat) (h : Int64) : Int64 := mmR m h (nI x)
def dbR (m : Re) (s w : Nat) (h : Int64) : Int64 := mxL h (strR m (nI s) (nI w)).toInt64
def ddR (m : Re) (s : Nat) (h : Int64) : Int64 := fold2 (dbR m s) h 6
def deR (m : Re) (w : Nat) (h : Int64) : Int64 := mxL h (ctR m (nI w)).toInt64
def d0R (n : Int32) (m : Re) : Int64 := mxL (mxL (mxL (mxL 12560 n.toInt64) (m 2).toInt64) (m 0).toInt64) (m 1).toInt64
def diR (n : Int32) (m : Re) : Int64 := fold2 (deR m) (fold2 (ddR m) (fold2 (daR m) (d0R n m) 32) 4) 8
def fr_digest (M : Mm) : Option Rs := if wA (M.1 2) = true then some (.inl (some (.long (diR (M.1 4 2) (M.1 2))), kL (kc M 0) (diR (M.1 4 2) (M.1 2)))) else none
theorem pr_digest (ad : Nat → Nat) (M : Mm) (r : Rs) (h : fr_digest M = some r) : T_X4_digest_0 ad r (sp_I fr_countOf) (sp_J fr_mix) (sp_I fr_mixMember) (sp_II fr_stripeOf) [some (.ref (ad 6)), none, none] [] M := by
  unfold fr_digest at h
  split at h
  · next hw =>
    cases h
    simp only [T_X4_digest_0, tt_c, tt_lc, tt_il, tt_ll, tt_al, tt_is, tt_lsv, tt_as, tt_inc, tt_add, tt_sub, tt_mul, tt_and, tt_ladd, tt_lmul, tt_i2l, tt_lcmp, tt_dupr, tt_dup2, tt_eq0, tt_lt0, tt_le0, tt_ge0, tt_gt0, tt_eq2, tt_lt2, tt_ge2, tt_gt2, tt_le2, tt_gr, tt_gi, tt_pi, tt_gl, tt_pl, tt_ia, tt_st, tt_ir, tt_zr, tt_lr, tt_vr, tt_cv, tt_cs, tt_max, tt_min, tt_rem, tt_xor, tt_len, tt_cp, tt_thr, tt_xv, tt_xs, k_sv, k_cl, k_kz, List.getElem?_cons_zero, List.getElem?_cons_succ, List.drop_succ_cons, List.drop_zero, List.take_succ_cons, List.take_zero, List.reverse_cons, List.reverse_nil, List.nil_append, List.cons_append, List.length_cons, List.length_nil, Option.toList_some, Option.toList_none, Nat.reduceAdd, Nat.reduceLeDiff, true_and, and_true, sp_I, sp_II, sp_III, sp_J, sp_JI, sp_JJ, sp_R2, sp_R5I, sp_V, kL_def, kc_def, fr_mix, kL_1, kL_0, kL_L, kc_1, kc_42, vi_0, vi_1, vi_2, cl_0, cl_1, cl_2, true_and]
    refine k_eqM (congrArg (kL (kc M 0)) (fold2_0 (daR (M.1 2)) (d0R (M.1 4 2) (M.1 2)))) (lp_of (σ := Nat) (fun j => j ≤ 32) (fun j => [some (.ref (ad 6)), some (.int (nI j)), none]) (fun j => kL (kc M 0) (fold2 (daR (M.1 2)) (d0R (M.1 4 2) (M.1 2)) j)) (fun j => 32 - j) ?_ 0 (by omega))
    intro k j hj hk
    simp only [T_X4_digest_56, tt_c, tt_lc, tt_il, tt_ll, tt_al, tt_is, tt_lsv, tt_as, tt_inc, tt_add, tt_sub, tt_mul, tt_and, tt_ladd, tt_lmul, tt_i2l, tt_lcmp, tt_dupr, tt_dup2, tt_eq0, tt_lt0, tt_le0, tt_ge0, tt_gt0, tt_eq2, tt_lt2, tt_ge2, tt_gt2, tt_le2, tt_gr, tt_gi, tt_pi, tt_gl, tt_pl, tt_ia, tt_st, tt_ir, tt_zr, tt_lr, tt_vr, tt_cv, tt_cs, tt_max, tt_min, tt_rem, tt_xor, tt_len, tt_cp, tt_thr, tt_xv, tt_xs, k_sv, k_cl, k_kz, List.getElem?_cons_zero, List.getElem?_cons_succ, List.drop_succ_cons, List.drop_zero, List.take_succ_cons, List.take_zero, List.reverse_cons, List.reverse_nil, List.nil_append, List.cons_append, List.length_cons, List.length_nil, Option.toList_some, Option.toList_none, Nat.reduceAdd, Nat.reduceLeDiff, true_and, and_true, sp_I, sp_II, sp_III, sp_J, sp_JI, sp_JJ, sp_R2, sp_R5I, sp_V, ge32 hj]
    refine ⟨fun c1 => ?_, fun c1 => ?_⟩
    · subst c1
      refine k_eqM (congrArg (kL (kc M 0)) (fold2_0 (ddR (M.1 2)) (fold2 (daR (M.1 2)) (d0R (M.1 4 2) (M.1 2)) 32))) (lp_of (σ := Nat × Option Value) (fun q => q.1 ≤ 4) (fun q => [some (.ref (ad 6)), some (.int (nI q.1)), q.2]) (fun q => kL (kc M 0) (fold2 (ddR (M.1 2)) (fold2 (daR (M.1 2)) (d0R (M.1 4 2) (M.1 2)) 32) q.1)) (fun q => 4 - q.1) ?_ (0, none) (by dsimp only; omega))
      rintro k2 ⟨i, o⟩ hi hk2
      dsimp only at hi
      simp only [T_X4_digest_75, tt_c, tt_lc, tt_il, tt_ll, tt_al, tt_is, tt_lsv, tt_as, tt_inc, tt_add, tt_sub, tt_mul, tt_and, tt_ladd, tt_lmul, tt_i2l, tt_lcmp, tt_dupr, tt_dup2, tt_eq0, tt_lt0, tt_le0, tt_ge0, tt_gt0, tt_eq2, tt_lt2, tt_ge2, tt_gt2, tt_le2, tt_gr, tt_gi, tt_pi, tt_gl, tt_pl, tt_ia, tt_st, tt_ir, tt_zr, tt_lr, tt_vr, tt_cv, tt_cs, tt_max, tt_min, tt_rem, tt_xor, tt_len, tt_cp, tt_thr, tt_xv, tt_xs, k_sv, k_cl, k_kz, List.getElem?_cons_zero, List.getElem?_cons_succ, List.drop_succ_cons, List.drop_zero, List.take_succ_cons, List.take_zero, List.reverse_cons, List.reverse_nil, List.nil_append, List.cons_append, List.length_cons, List.length_nil, Option.toList_some, Option.toList_none, Nat.reduceAdd, Nat.reduceLeDiff, true_and, and_true, sp_I, sp_II, sp_III, sp_J, sp_JI, sp_JJ, sp_R2, sp_R5I, sp_V, ge4 hi]
      refine ⟨fun c2 => ?_, fun c2 => ?_⟩
      · subst c2
        refine k_eqM (congrArg (kL (kc M 0)) (fold2_0 (deR (M.1 2)) (fold2 (ddR (M.1 2)) (fold2 (daR (M.1 2)) (d0R (M.1 4 2) (M.1 2)) 32) 4))) (lp_of (σ := Nat) (fun j => j ≤ 8) (fun j => [some (.ref (ad 6)), some (.int (nI j)), o]) (fun j => kL (kc M 0) (fold2 (deR (M.1 2)) (fold2 (ddR (M.1 2)) (fold2 (daR (M.1 2)) (d0R (M.1 4 2) (M.1 2)) 32) 4) j)) (fun j => 8 - j) ?_ 0 (by omega))
        intro k3 a ha hk3
        simp only [T_X4_digest_113, tt_c, tt_lc, tt_il, tt_ll, tt_al, tt_is, tt_lsv, tt_as, tt_inc, tt_add, tt_sub, tt_mul, tt_and, tt_ladd, tt_lmul, tt_i2l, tt_lcmp, tt_dupr, tt_dup2, tt_eq0, tt_lt0, tt_le0, tt_ge0, tt_gt0, tt_eq2, tt_lt2, tt_ge2, tt_gt2, tt_le2, tt_gr, tt_gi, tt_pi, tt_gl, tt_pl, tt_ia, tt_st, tt_ir, tt_zr, tt_lr, tt_vr, tt_cv, tt_cs, tt_max, tt_min, tt_rem, tt_xor, tt_len, tt_cp, tt_thr, tt_xv, tt_xs, k_sv, k_cl, k_kz, List.getElem?_cons_zero, List.getElem?_cons_succ, List.drop_succ_cons, List.drop_zero, List.take_succ_cons, List.take_zero, List.reverse_cons, List.reverse_nil, List.nil_append, List.cons_append, List.length_cons, List.length_nil, Option.toList_some, Option.toList_none, Nat.reduceAdd, Nat.reduceLeDiff, true_and, and_true, sp_I, sp_II, sp_III, sp_J, sp_JI, sp_JJ, sp_R2, sp_R5I, sp_V, ge8 ha]
        refine ⟨fun c3 => ?_, fun c3 => ?_⟩
        · subst c3
          simp only [kL_0]
          rfl
        · have hk4 := hk3 (a + 1) (by omega) (by omega)
          rw [fold2_s, nI_succ] at hk4
          simp only [fr_countOf, fr_mix, kL_1, kL_0, kL_L, kc_1, show bR (nI a) 0 7 = false from bR_n (n := 7) (by omega) (by omega), if_true, tt_c, tt_lc, tt_il, tt_ll, tt_al, tt_is, tt_lsv, tt_as, tt_inc, tt_add, tt_sub, tt_mul, tt_and, tt_ladd, tt_lmul, tt_i2l, tt_lcmp, tt_dupr, tt_dup2, tt_eq0, tt_lt0, tt_le0, tt_ge0, tt_gt0, tt_eq2, tt_lt2, tt_ge2, tt_gt2, tt_le2, tt_gr, tt_gi, tt_pi, tt_gl, tt_pl, tt_ia, tt_st, tt_ir, tt_zr, tt_lr, tt_vr, tt_cv, tt_cs, tt_max, tt_min, tt_rem, tt_xor, tt_len, tt_cp, tt_thr, tt_xv, tt_xs, k_sv, k_cl, k_kz, List.getElem?_cons_zero, List.getElem?_cons_succ, List.drop_succ_cons, List.drop_zero, List.take_succ_cons, List.take_zero, List.reverse_cons, List.reverse_nil, List.nil_append, List.cons_append, List.length_cons, List.length_nil, Option.toList_some, Option.toList_none, Nat.reduceAdd, Nat.reduceLeDiff, true_and, and_true, sp_I, sp_II, sp_III, sp_J, sp_JI, sp_JJ, sp_R2, sp_R5I, sp_V]
          exact hk4
      · refine k_eqM (congrArg (kL (kc M 0)) (fold2_0 (dbR (M.1 2) i) (fold2 (ddR (M.1 2)) (fold2 (daR (M.1 2)) (d0R (M.1 4 2) (M.1 2)) 32) i))) (lp_of (σ := Nat) (fun j => j ≤ 6) (fun j => [some (.ref (ad 6)), some (.int (nI i)), some (.int (nI j))]) (fun j => kL (kc M 0) (fold2 (dbR (M.1 2) i) (fold2 (ddR (M.1 2)) (fold2 (daR (M.1 2)) (d0R (M.1 4 2) (M.1 2)) 32) i) j)) (fun j => 6 - j) ?_ 0 (by omega))
        intro k3 a ha hk3
        simp only [T_X4_digest_82, tt_c, tt_lc, tt_il, tt_ll, tt_al, tt_is, tt_lsv, tt_as, tt_inc, tt_add, tt_sub, tt_mul, tt_and, tt_ladd, tt_lmul, tt_i2l, tt_lcmp, tt_dupr, tt_dup2, tt_eq0, tt_lt0, tt_le0, tt_ge0, tt_gt0, tt_eq2, tt_lt2, tt_ge2, tt_gt2, tt_le2, tt_gr, tt_gi, tt_pi, tt_gl, tt_pl, tt_ia, tt_st, tt_ir, tt_zr, tt_lr, tt_vr, tt_cv, tt_cs, tt_max, tt_min, tt_rem, tt_xor, tt_len, tt_cp, tt_thr, tt_xv, tt_xs, k_sv, k_cl, k_kz, List.getElem?_cons_zero, List.getElem?_cons_succ, List.drop_succ_cons, List.drop_zero, List.take_succ_cons, List.take_zero, List.reverse_cons, List.reverse_nil, List.nil_append, List.cons_append, List.length_cons, List.length_nil, Option.toList_some, Option.toList_none, Nat.reduceAdd, Nat.reduceLeDiff, true_and, and_true, sp_I, sp_II, sp_III, sp_J, sp_JI, sp_JJ, sp_R2, sp_R5I, sp_V, ge6 ha]
        refine ⟨fun c3 => ?_, fun c3 => ?_⟩
        · subst c3
          have hk4 := hk2 (i + 1, some (.int (nI 6))) (by dsimp only; omega) (by dsimp only; omega)
          dsimp only at hk4
          rw [fold2_s, nI_succ] at hk4
          exact hk4
        · have hk4 := hk3 (a + 1) (by omega) (by omega)
          rw [fold2_s, nI_succ] at hk4
          simp only [fr_stripeOf, fr_mix, kL_1, kL_0, kL_L, kc_1, bS_n (show i < 4 by omega), wA_at hw (show i < 4 by omega), show bR (nI a) 0 5 = false from bR_n (n := 5) (by omega) (by omega), and_self, if_true, tt_c, tt_lc, tt_il, tt_ll, tt_al, tt_is, tt_lsv, tt_as, tt_inc, tt_add, tt_sub, tt_mul, tt_and, tt_ladd, tt_lmul, tt_i2l, tt_lcmp, tt_dupr, tt_dup2, tt_eq0, tt_lt0, tt_le0, tt_ge0, tt_gt0, tt_eq2, tt_lt2, tt_ge2, tt_gt2, tt_le2, tt_gr, tt_gi, tt_pi, tt_gl, tt_pl, tt_ia, tt_st, tt_ir, tt_zr, tt_lr, tt_vr, tt_cv, tt_cs, tt_max, tt_min, tt_rem, tt_xor, tt_len, tt_cp, tt_thr, tt_xv, tt_xs, k_sv, k_cl, k_kz, List.getElem?_cons_zero, List.getElem?_cons_succ, List.drop_succ_cons, List.drop_zero, List.take_succ_cons, List.take_zero, List.reverse_cons, List.reverse_nil, List.nil_append, List.cons_append, List.length_cons, List.length_nil, Option.toList_some, Option.toList_none, Nat.reduceAdd, Nat.reduceLeDiff, true_and, and_true, sp_I, sp_II, sp_III, sp_J, sp_JI, sp_JJ, sp_R2, sp_R5I, sp_V]
          exact hk4
    · have hk1 := hk (j + 1) (by omega) (by omega)
      rw [fold2_s, nI_succ] at hk1
      simp only [fr_mixMember, kL_1, kL_0, kL_L, kc_1, bM_n (show j < 32 by omega), hw, and_self, if_true, tt_c, tt_lc, tt_il, tt_ll, tt_al, tt_is, tt_lsv, tt_as, tt_inc, tt_add, tt_sub, tt_mul, tt_and, tt_ladd, tt_lmul, tt_i2l, tt_lcmp, tt_dupr, tt_dup2, tt_eq0, tt_lt0, tt_le0, tt_ge0, tt_gt0, tt_eq2, tt_lt2, tt_ge2, tt_gt2, tt_le2, tt_gr, tt_gi, tt_pi, tt_gl, tt_pl, tt_ia, tt_st, tt_ir, tt_zr, tt_lr, tt_vr, tt_cv, tt_cs, tt_max, tt_min, tt_rem, tt_xor, tt_len, tt_cp, tt_thr, tt_xv, tt_xs, k_sv, k_cl, k_kz, List.getElem?_cons_zero, List.getElem?_cons_succ, List.drop_succ_cons, List.drop_zero, List.take_succ_cons, List.take_zero, List.reverse_cons, List.reverse_nil, List.nil_append, List.cons_append, List.length_cons, List.length_nil, Option.toList_some, Option.toList_none, Nat.reduceAdd, Nat.reduceLeDiff, true_and, and_true, sp_I, sp_II, sp_III, sp_J, sp_JI, sp_JJ, sp_R2, sp_R5I, sp_V]
      exact hk1
  · cases h
