/-! the class's writers, the rest: cutting, taking in and out, the undo stack -/
def cutN (p s : Int32) : Nat → Ce → Ce
  | 0, c => c
  | n + 1, c => cutN p s n (mvC c (lcC c p s) s (-1))
def cutC (c : Ce) (p s most : Int32) : Ce := cutN p s ((chC c p s).toInt - most.toInt).toNat c
theorem k_dec {x m : Int32} (h : ¬ x ≤ m) : (x + -1).toInt = x.toInt - 1 := by
  have h1 : m.toInt < x.toInt := Int32.lt_iff_toInt_lt.mp (Int32.not_le.mp h)
  have h2 := Int32.le_toInt m
  have h3 := Int32.toInt_lt x
  rw [Int32.toInt_add, show (-1 : Int32).toInt = -1 from rfl]
  exact Int.bmod_eq_of_le (by omega) (by omega)
def f_cutChildren (p s most : Int32) (M : Mm) : Option Rs := some (.inl (none, k_r0 M (cutC (M.1 0) p s most)))
theorem p_cutChildren (ad : Nat → Nat) (x0 x1 x2 : Int32) (M : Mm) (r : Rs) (h : f_cutChildren x0 x1 x2 M = some r) : T_X1_cutChildren_0 ad r (sp_III f_moveTo) (sp_II f_childrenAt) (sp_II f_lastChild) [some (.ref (ad 1)), some (.int x0), some (.int x1), some (.int x2), none] [] M := by
  cases h
  simp only [T_X1_cutChildren_0, tt_c, tt_lc, tt_il, tt_ll, tt_al, tt_is, tt_lsv, tt_as, tt_inc, tt_add, tt_sub, tt_mul, tt_and, tt_ladd, tt_lmul, tt_i2l, tt_lcmp, tt_dupr, tt_dup2, tt_eq0, tt_lt0, tt_le0, tt_ge0, tt_gt0, tt_eq2, tt_lt2, tt_ge2, tt_gt2, tt_le2, tt_gr, tt_gi, tt_pi, tt_gl, tt_pl, tt_ia, tt_st, tt_ir, tt_zr, tt_lr, tt_vr, tt_cv, tt_cs, tt_max, tt_min, tt_rem, tt_xor, tt_len, tt_cp, tt_thr, tt_xv, tt_xs, k_sv, k_cl, k_kz, List.getElem?_cons_zero, List.getElem?_cons_succ, List.drop_succ_cons, List.drop_zero, List.take_succ_cons, List.take_zero, List.reverse_cons, List.reverse_nil, List.nil_append, List.cons_append, List.length_cons, List.length_nil, Option.toList_some, Option.toList_none, Nat.reduceAdd, Nat.reduceLeDiff, true_and, and_true, sp_I, sp_II, sp_III, sp_JI, sp_JJ, sp_R2, sp_R5I, sp_V, f_childrenAt]
  refine k_eqM (k_r0_s M) (lp_of (σ := Int32 × Ce) (fun q => cutN x0 x1 (q.1.toInt - x2.toInt).toNat q.2 = cutC (M.1 0) x0 x1 x2) (fun q => [some (.ref (ad 1)), some (.int x0), some (.int x1), some (.int x2), some (.int q.1)]) (fun q => k_r0 M q.2) (fun q => (q.1.toInt - x2.toInt).toNat) ?_ (chC (M.1 0) x0 x1, M.1 0) rfl)
  rintro k ⟨l, c⟩ hd hk
  dsimp only at hd
  simp only [tt_c, tt_lc, tt_il, tt_ll, tt_al, tt_is, tt_lsv, tt_as, tt_inc, tt_add, tt_sub, tt_mul, tt_and, tt_ladd, tt_lmul, tt_i2l, tt_lcmp, tt_dupr, tt_dup2, tt_eq0, tt_lt0, tt_le0, tt_ge0, tt_gt0, tt_eq2, tt_lt2, tt_ge2, tt_gt2, tt_le2, tt_gr, tt_gi, tt_pi, tt_gl, tt_pl, tt_ia, tt_st, tt_ir, tt_zr, tt_lr, tt_vr, tt_cv, tt_cs, tt_max, tt_min, tt_rem, tt_xor, tt_len, tt_cp, tt_thr, tt_xv, tt_xs, k_sv, k_cl, k_kz, List.getElem?_cons_zero, List.getElem?_cons_succ, List.drop_succ_cons, List.drop_zero, List.take_succ_cons, List.take_zero, List.reverse_cons, List.reverse_nil, List.nil_append, List.cons_append, List.length_cons, List.length_nil, Option.toList_some, Option.toList_none, Nat.reduceAdd, Nat.reduceLeDiff, true_and, and_true, sp_I, sp_II, sp_III, sp_JI, sp_JJ, sp_R2, sp_R5I, sp_V, f_lastChild, f_moveTo, k_r0_0, k_r0_r]
  refine ⟨fun c1 => ?_, fun c1 => ?_⟩
  · have : (l.toInt - x2.toInt).toNat = 0 := by
      have := Int32.le_iff_toInt_le.mp c1
      omega
    rw [this] at hd
    rw [← hd]
    rfl
  · have h1 : x2.toInt < l.toInt := Int32.lt_iff_toInt_lt.mp (Int32.not_le.mp c1)
    have h2 := k_dec c1
    have hn : (l.toInt - x2.toInt).toNat = ((l + -1).toInt - x2.toInt).toNat + 1 := by omega
    rw [hn, cutN] at hd
    exact hk (l + -1, mvC c (lcC c x0 x1) x1 (-1)) hd (by dsimp only; omega)
def tiC (c : Ce) (x b p : Int32) : Ce := afC (svC (svC (svC (svC (svC c x 0 1) x 1 b) x 2 p) x 4 (-1)) x 6 (-1)) 0 1
def f_takeIn (x b p : Int32) (M : Mm) : Option Rs := some (.inl (none, k_r0 M (tiC (M.1 0) x b p)))
theorem p_takeIn (ad : Nat → Nat) (x0 x1 x2 : Int32) (M : Mm) (r : Rs) (h : f_takeIn x0 x1 x2 M = some r) : T_X1_takeIn_0 ad r (sp_II f_addToFigure) (sp_III f_setValue) [some (.ref (ad 1)), some (.int x0), some (.int x1), some (.int x2)] [] M := by
  cases h
  simp only [T_X1_takeIn_0, tt_c, tt_lc, tt_il, tt_ll, tt_al, tt_is, tt_lsv, tt_as, tt_inc, tt_add, tt_sub, tt_mul, tt_and, tt_ladd, tt_lmul, tt_i2l, tt_lcmp, tt_dupr, tt_dup2, tt_eq0, tt_lt0, tt_le0, tt_ge0, tt_gt0, tt_eq2, tt_lt2, tt_ge2, tt_gt2, tt_le2, tt_gr, tt_gi, tt_pi, tt_gl, tt_pl, tt_ia, tt_st, tt_ir, tt_zr, tt_lr, tt_vr, tt_cv, tt_cs, tt_max, tt_min, tt_rem, tt_xor, tt_len, tt_cp, tt_thr, tt_xv, tt_xs, k_sv, k_cl, k_kz, List.getElem?_cons_zero, List.getElem?_cons_succ, List.drop_succ_cons, List.drop_zero, List.take_succ_cons, List.take_zero, List.reverse_cons, List.reverse_nil, List.nil_append, List.cons_append, List.length_cons, List.length_nil, Option.toList_some, Option.toList_none, Nat.reduceAdd, Nat.reduceLeDiff, true_and, and_true, sp_I, sp_II, sp_III, sp_JI, sp_JJ, sp_R2, sp_R5I, sp_V, f_addToFigure, f_setValue, k_r0_0, k_r0_r, tiC]
def toF (x : Int32) (s : Nat) (c : Ce) : Ce := mvC (cutC c x (nI s) 0) x (nI s) (-1)
def toG (x : Int32) (w : Nat) (c : Ce) : Ce := svC c x (nI w) 0
def toC (c : Ce) (x : Int32) : Ce := afC (fold2 (toG x) (fold2 (toF x) c 4) 10) 0 (-1)
def f_takeOut (x : Int32) (M : Mm) : Option Rs := some (.inl (none, k_r0 M (toC (M.1 0) x)))
theorem p_takeOut (ad : Nat → Nat) (x0 : Int32) (M : Mm) (r : Rs) (h : f_takeOut x0 M = some r) : T_X1_takeOut_0 ad r (sp_II f_addToFigure) (sp_III f_moveTo) (sp_III f_setValue) (sp_III f_cutChildren) [some (.ref (ad 1)), some (.int x0), none] [] M := by
  cases h
  simp only [T_X1_takeOut_0, tt_c, tt_lc, tt_il, tt_ll, tt_al, tt_is, tt_lsv, tt_as, tt_inc, tt_add, tt_sub, tt_mul, tt_and, tt_ladd, tt_lmul, tt_i2l, tt_lcmp, tt_dupr, tt_dup2, tt_eq0, tt_lt0, tt_le0, tt_ge0, tt_gt0, tt_eq2, tt_lt2, tt_ge2, tt_gt2, tt_le2, tt_gr, tt_gi, tt_pi, tt_gl, tt_pl, tt_ia, tt_st, tt_ir, tt_zr, tt_lr, tt_vr, tt_cv, tt_cs, tt_max, tt_min, tt_rem, tt_xor, tt_len, tt_cp, tt_thr, tt_xv, tt_xs, k_sv, k_cl, k_kz, List.getElem?_cons_zero, List.getElem?_cons_succ, List.drop_succ_cons, List.drop_zero, List.take_succ_cons, List.take_zero, List.reverse_cons, List.reverse_nil, List.nil_append, List.cons_append, List.length_cons, List.length_nil, Option.toList_some, Option.toList_none, Nat.reduceAdd, Nat.reduceLeDiff, true_and, and_true, sp_I, sp_II, sp_III, sp_JI, sp_JJ, sp_R2, sp_R5I, sp_V]
  refine k_eqM (k_r0_s M) (lp_of (σ := Nat) (fun j => j ≤ 4) (fun j => [some (.ref (ad 1)), some (.int x0), some (.int (nI j))]) (fun j => k_r0 M (fold2 (toF x0) (M.1 0) j)) (fun j => 4 - j) ?_ 0 (by omega))
  intro k s hs hk
  simp only [tt_c, tt_lc, tt_il, tt_ll, tt_al, tt_is, tt_lsv, tt_as, tt_inc, tt_add, tt_sub, tt_mul, tt_and, tt_ladd, tt_lmul, tt_i2l, tt_lcmp, tt_dupr, tt_dup2, tt_eq0, tt_lt0, tt_le0, tt_ge0, tt_gt0, tt_eq2, tt_lt2, tt_ge2, tt_gt2, tt_le2, tt_gr, tt_gi, tt_pi, tt_gl, tt_pl, tt_ia, tt_st, tt_ir, tt_zr, tt_lr, tt_vr, tt_cv, tt_cs, tt_max, tt_min, tt_rem, tt_xor, tt_len, tt_cp, tt_thr, tt_xv, tt_xs, k_sv, k_cl, k_kz, List.getElem?_cons_zero, List.getElem?_cons_succ, List.drop_succ_cons, List.drop_zero, List.take_succ_cons, List.take_zero, List.reverse_cons, List.reverse_nil, List.nil_append, List.cons_append, List.length_cons, List.length_nil, Option.toList_some, Option.toList_none, Nat.reduceAdd, Nat.reduceLeDiff, true_and, and_true, sp_I, sp_II, sp_III, sp_JI, sp_JJ, sp_R2, sp_R5I, sp_V, f_moveTo, f_cutChildren, k_r0_0, k_r0_r, ge4 hs]
  refine ⟨fun c1 => ?_, fun c1 => ?_⟩
  · subst c1
    refine k_eqM (M1 := k_r0 M (fold2 (toG x0) (fold2 (toF x0) (M.1 0) 4) 0)) (by rw [fold2_0]) (lp_of (σ := Nat) (fun j => j ≤ 10) (fun j => [some (.ref (ad 1)), some (.int x0), some (.int (nI j))]) (fun j => k_r0 M (fold2 (toG x0) (fold2 (toF x0) (M.1 0) 4) j)) (fun j => 10 - j) ?_ 0 (by omega))
    intro k2 j hj hk2
    simp only [tt_c, tt_lc, tt_il, tt_ll, tt_al, tt_is, tt_lsv, tt_as, tt_inc, tt_add, tt_sub, tt_mul, tt_and, tt_ladd, tt_lmul, tt_i2l, tt_lcmp, tt_dupr, tt_dup2, tt_eq0, tt_lt0, tt_le0, tt_ge0, tt_gt0, tt_eq2, tt_lt2, tt_ge2, tt_gt2, tt_le2, tt_gr, tt_gi, tt_pi, tt_gl, tt_pl, tt_ia, tt_st, tt_ir, tt_zr, tt_lr, tt_vr, tt_cv, tt_cs, tt_max, tt_min, tt_rem, tt_xor, tt_len, tt_cp, tt_thr, tt_xv, tt_xs, k_sv, k_cl, k_kz, List.getElem?_cons_zero, List.getElem?_cons_succ, List.drop_succ_cons, List.drop_zero, List.take_succ_cons, List.take_zero, List.reverse_cons, List.reverse_nil, List.nil_append, List.cons_append, List.length_cons, List.length_nil, Option.toList_some, Option.toList_none, Nat.reduceAdd, Nat.reduceLeDiff, true_and, and_true, sp_I, sp_II, sp_III, sp_JI, sp_JJ, sp_R2, sp_R5I, sp_V, f_setValue, f_addToFigure, k_r0_0, k_r0_r, ge10 hj]
    refine ⟨fun c2 => ?_, fun c2 => ?_⟩
    · subst c2
      rfl
    · simpa [nI_succ, fold2, toG] using hk2 (j + 1) (by omega) (by omega)
  · simpa [nI_succ, fold2, toF] using hk (s + 1) (by omega) (by omega)
/-! the undo stack: four rows -/
def fmI (x y : Int32) : Int32 := if 0 ≤ x ^^^ y then x - x / y * y else if x - x / y * y = 0 then x - x / y * y else x - x / y * y + y
def f_floorMod (x y : Int32) (M : Mm) : Option Rs := if y = 0 then none else some (.inl (some (.int (fmI x y)), M))
theorem p_floorMod (ad : Nat → Nat) (x0 x1 : Int32) (M : Mm) (r : Rs) (h : f_floorMod x0 x1 M = some r) : T_J9_floorMod_7cf53_0 ad r [some (.int x0), some (.int x1), none] [] M := by
  unfold f_floorMod at h
  split at h
  · cases h
  · next h0 =>
    cases h
    simp only [T_J9_floorMod_7cf53_18, T_J9_floorMod_7cf53_0, tt_c, tt_lc, tt_il, tt_ll, tt_al, tt_is, tt_lsv, tt_as, tt_inc, tt_add, tt_sub, tt_mul, tt_and, tt_ladd, tt_lmul, tt_i2l, tt_lcmp, tt_dupr, tt_dup2, tt_eq0, tt_lt0, tt_le0, tt_ge0, tt_gt0, tt_eq2, tt_lt2, tt_ge2, tt_gt2, tt_le2, tt_gr, tt_gi, tt_pi, tt_gl, tt_pl, tt_ia, tt_st, tt_ir, tt_zr, tt_lr, tt_vr, tt_cv, tt_cs, tt_max, tt_min, tt_rem, tt_xor, tt_len, tt_cp, tt_thr, tt_xv, tt_xs, k_sv, k_cl, k_kz, List.getElem?_cons_zero, List.getElem?_cons_succ, List.drop_succ_cons, List.drop_zero, List.take_succ_cons, List.take_zero, List.reverse_cons, List.reverse_nil, List.nil_append, List.cons_append, List.length_cons, List.length_nil, Option.toList_some, Option.toList_none, Nat.reduceAdd, Nat.reduceLeDiff, true_and, and_true, sp_I, sp_II, sp_III, sp_JI, sp_JJ, sp_R2, sp_R5I, sp_V]
    refine ⟨h0, fun c1 => ?_, fun c1 => ⟨fun c2 => ?_, fun c2 => ?_⟩⟩ <;> simp [fmI, *]
def f_copyTo (a : Int32) (M : Mm) : Option Rs := some (.inl (none, if a < 0 ∨ 1377 < a then M else k_cp M 0 1 0 a.toNatClampNeg 459))
theorem k_1377 : Int32.ofNat 1836 - 459 = 1377 := by decide
theorem k_a459 {a : Int32} (h0 : ¬ a < 0) (h1 : ¬ 1377 < a) : a.toNatClampNeg + 459 ≤ 1836 := by
  obtain ⟨j, hj, rfl⟩ := nI_of h0
  rw [show (1377 : Int32) = nI 1377 from rfl, nI_ltI (by omega) hj] at h1
  rw [nI_clamp hj]
  omega
theorem p_copyTo (ad : Nat → Nat) (x1 : Int32) (M : Mm) (r : Rs) (h : f_copyTo x1 M = some r) : T_X0_copyTo_0 ad r [some (.ref (ad 2)), some (.ref (ad 5)), some (.int x1)] [] M := by
  cases h
  simp only [T_X0_copyTo_27, T_X0_copyTo_0, tt_c, tt_lc, tt_il, tt_ll, tt_al, tt_is, tt_lsv, tt_as, tt_inc, tt_add, tt_sub, tt_mul, tt_and, tt_ladd, tt_lmul, tt_i2l, tt_lcmp, tt_dupr, tt_dup2, tt_eq0, tt_lt0, tt_le0, tt_ge0, tt_gt0, tt_eq2, tt_lt2, tt_ge2, tt_gt2, tt_le2, tt_gr, tt_gi, tt_pi, tt_gl, tt_pl, tt_ia, tt_st, tt_ir, tt_zr, tt_lr, tt_vr, tt_cv, tt_cs, tt_max, tt_min, tt_rem, tt_xor, tt_len, tt_cp, tt_thr, tt_xv, tt_xs, k_sv, k_cl, k_kz, List.getElem?_cons_zero, List.getElem?_cons_succ, List.drop_succ_cons, List.drop_zero, List.take_succ_cons, List.take_zero, List.reverse_cons, List.reverse_nil, List.nil_append, List.cons_append, List.length_cons, List.length_nil, Option.toList_some, Option.toList_none, Nat.reduceAdd, Nat.reduceLeDiff, true_and, and_true, sp_I, sp_II, sp_III, sp_JI, sp_JJ, sp_R2, sp_R5I, sp_V, k_1377]
  refine ⟨fun c1 => ?_, fun c1 => ⟨fun c2 => ?_, fun c2 => ⟨by decide, c1, by decide, by decide, k_a459 c1 c2, ?_⟩⟩⟩
  · simp [c1]
  · simp [c2]
  · simp only [c1, c2, or_self, if_false]
    rfl
def f_copyFrom (a : Int32) (M : Mm) : Option Rs := some (.inl (none, if a < 0 ∨ 1377 < a then M else k_cp M 1 0 a.toNatClampNeg 0 459))
theorem p_copyFrom (ad : Nat → Nat) (x1 : Int32) (M : Mm) (r : Rs) (h : f_copyFrom x1 M = some r) : T_X0_copyFrom_0 ad r [some (.ref (ad 2)), some (.ref (ad 5)), some (.int x1)] [] M := by
  cases h
  simp only [T_X0_copyFrom_27, T_X0_copyFrom_0, tt_c, tt_lc, tt_il, tt_ll, tt_al, tt_is, tt_lsv, tt_as, tt_inc, tt_add, tt_sub, tt_mul, tt_and, tt_ladd, tt_lmul, tt_i2l, tt_lcmp, tt_dupr, tt_dup2, tt_eq0, tt_lt0, tt_le0, tt_ge0, tt_gt0, tt_eq2, tt_lt2, tt_ge2, tt_gt2, tt_le2, tt_gr, tt_gi, tt_pi, tt_gl, tt_pl, tt_ia, tt_st, tt_ir, tt_zr, tt_lr, tt_vr, tt_cv, tt_cs, tt_max, tt_min, tt_rem, tt_xor, tt_len, tt_cp, tt_thr, tt_xv, tt_xs, k_sv, k_cl, k_kz, List.getElem?_cons_zero, List.getElem?_cons_succ, List.drop_succ_cons, List.drop_zero, List.take_succ_cons, List.take_zero, List.reverse_cons, List.reverse_nil, List.nil_append, List.cons_append, List.length_cons, List.length_nil, Option.toList_some, Option.toList_none, Nat.reduceAdd, Nat.reduceLeDiff, true_and, and_true, sp_I, sp_II, sp_III, sp_JI, sp_JJ, sp_R2, sp_R5I, sp_V, k_1377]
  refine ⟨fun c1 => ?_, fun c1 => ⟨fun c2 => ?_, fun c2 => ⟨c1, by decide, by decide, k_a459 c1 c2, by decide, ?_⟩⟩⟩
  · simp [c1]
  · simp [c2]
  · simp only [c1, c2, or_self, if_false]
    rfl
def f_size (M : Mm) : Option Rs := some (.inl (some (.int (M.1 4 0)), M))
theorem p_size (ad : Nat → Nat) (M : Mm) (r : Rs) (h : f_size M = some r) : T_X2_size_0 ad r [some (.ref (ad 3))] [] M := by
  cases h
  simp only [T_X2_size_0, tt_c, tt_lc, tt_il, tt_ll, tt_al, tt_is, tt_lsv, tt_as, tt_inc, tt_add, tt_sub, tt_mul, tt_and, tt_ladd, tt_lmul, tt_i2l, tt_lcmp, tt_dupr, tt_dup2, tt_eq0, tt_lt0, tt_le0, tt_ge0, tt_gt0, tt_eq2, tt_lt2, tt_ge2, tt_gt2, tt_le2, tt_gr, tt_gi, tt_pi, tt_gl, tt_pl, tt_ia, tt_st, tt_ir, tt_zr, tt_lr, tt_vr, tt_cv, tt_cs, tt_max, tt_min, tt_rem, tt_xor, tt_len, tt_cp, tt_thr, tt_xv, tt_xs, k_sv, k_cl, k_kz, List.getElem?_cons_zero, List.getElem?_cons_succ, List.drop_succ_cons, List.drop_zero, List.take_succ_cons, List.take_zero, List.reverse_cons, List.reverse_nil, List.nil_append, List.cons_append, List.length_cons, List.length_nil, Option.toList_some, Option.toList_none, Nat.reduceAdd, Nat.reduceLeDiff, true_and, and_true, sp_I, sp_II, sp_III, sp_JI, sp_JJ, sp_R2, sp_R5I, sp_V]
/-- push: the cells into the row next, then next and saved go on -/
def puM (M : Mm) : Mm := if M.1 4 1 * 459 < 0 ∨ 1377 < M.1 4 1 * 459 then M else k_cp M 0 1 0 (M.1 4 1 * 459).toNatClampNeg 459
def f_push (M : Mm) : Option Rs := some (.inl (none, k_up (k_up (puM M) 4 1 (fmI ((puM M).1 4 1 + 1) 4)) 4 0 (if (4 : Int32) < (k_up (puM M) 4 1 (fmI ((puM M).1 4 1 + 1) 4)).1 4 0 + 1 then 4 else (k_up (puM M) 4 1 (fmI ((puM M).1 4 1 + 1) 4)).1 4 0 + 1)))
theorem p_push (ad : Nat → Nat) (M : Mm) (r : Rs) (h : f_push M = some r) : T_X2_push_0 ad r (sp_II f_floorMod) (sp_R5I ad f_copyTo) [some (.ref (ad 3)), some (.ref (ad 2))] [] M := by
  cases h
  simp only [T_X2_push_0, tt_c, tt_lc, tt_il, tt_ll, tt_al, tt_is, tt_lsv, tt_as, tt_inc, tt_add, tt_sub, tt_mul, tt_and, tt_ladd, tt_lmul, tt_i2l, tt_lcmp, tt_dupr, tt_dup2, tt_eq0, tt_lt0, tt_le0, tt_ge0, tt_gt0, tt_eq2, tt_lt2, tt_ge2, tt_gt2, tt_le2, tt_gr, tt_gi, tt_pi, tt_gl, tt_pl, tt_ia, tt_st, tt_ir, tt_zr, tt_lr, tt_vr, tt_cv, tt_cs, tt_max, tt_min, tt_rem, tt_xor, tt_len, tt_cp, tt_thr, tt_xv, tt_xs, k_sv, k_cl, k_kz, List.getElem?_cons_zero, List.getElem?_cons_succ, List.drop_succ_cons, List.drop_zero, List.take_succ_cons, List.take_zero, List.reverse_cons, List.reverse_nil, List.nil_append, List.cons_append, List.length_cons, List.length_nil, Option.toList_some, Option.toList_none, Nat.reduceAdd, Nat.reduceLeDiff, true_and, and_true, sp_I, sp_II, sp_III, sp_JI, sp_JJ, sp_R2, sp_R5I, sp_V, f_floorMod, f_copyTo, if_true, show ¬ ((4 : Int32) = 0) by decide, if_false]
  rfl
def poN (M : Mm) : Mm := k_up (k_up M 4 1 (fmI (M.1 4 1 - 1) 4)) 4 0 (M.1 4 0 - 1)
def poM (M : Mm) : Mm := if (poN M).1 4 1 * 459 < 0 ∨ 1377 < (poN M).1 4 1 * 459 then poN M else k_cp (poN M) 1 0 ((poN M).1 4 1 * 459).toNatClampNeg 0 459
def f_popInto (M : Mm) : Option Rs := some (.inl (none, if M.1 4 0 = 0 then M else poM M))
theorem p_popInto (ad : Nat → Nat) (M : Mm) (r : Rs) (h : f_popInto M = some r) : T_X2_popInto_0 ad r (sp_II f_floorMod) (sp_R5I ad f_copyFrom) [some (.ref (ad 3)), some (.ref (ad 2))] [] M := by
  cases h
  have e0 : (k_up M 4 1 (fmI (M.1 4 1 - 1) 4)).1 4 0 = M.1 4 0 := rfl
  simp only [T_X2_popInto_0, tt_c, tt_lc, tt_il, tt_ll, tt_al, tt_is, tt_lsv, tt_as, tt_inc, tt_add, tt_sub, tt_mul, tt_and, tt_ladd, tt_lmul, tt_i2l, tt_lcmp, tt_dupr, tt_dup2, tt_eq0, tt_lt0, tt_le0, tt_ge0, tt_gt0, tt_eq2, tt_lt2, tt_ge2, tt_gt2, tt_le2, tt_gr, tt_gi, tt_pi, tt_gl, tt_pl, tt_ia, tt_st, tt_ir, tt_zr, tt_lr, tt_vr, tt_cv, tt_cs, tt_max, tt_min, tt_rem, tt_xor, tt_len, tt_cp, tt_thr, tt_xv, tt_xs, k_sv, k_cl, k_kz, List.getElem?_cons_zero, List.getElem?_cons_succ, List.drop_succ_cons, List.drop_zero, List.take_succ_cons, List.take_zero, List.reverse_cons, List.reverse_nil, List.nil_append, List.cons_append, List.length_cons, List.length_nil, Option.toList_some, Option.toList_none, Nat.reduceAdd, Nat.reduceLeDiff, true_and, and_true, sp_I, sp_II, sp_III, sp_JI, sp_JJ, sp_R2, sp_R5I, sp_V, f_floorMod, f_copyFrom, if_true, show ¬ ((4 : Int32) = 0) by decide, if_false, e0]
  refine ⟨fun c1 => ?_, fun c1 => ?_⟩
  · simp [c1]
  · simp only [c1, if_false]
    rfl
