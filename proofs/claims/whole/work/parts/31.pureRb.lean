/-! the reference in numbers: more of its readers -/
def fr_thrown (M : Mm) : Option Rs := some (.inl (some (.int (M.1 4 3)), M))
theorem pr_thrown (ad : Nat → Nat) (M : Mm) (r : Rs) (h : fr_thrown M = some r) : T_X4_thrown_0 ad r [some (.ref (ad 6))] [] M := by
  cases h
  simp only [T_X4_thrown_0, tt_c, tt_lc, tt_il, tt_ll, tt_al, tt_is, tt_lsv, tt_as, tt_inc, tt_add, tt_sub, tt_mul, tt_and, tt_ladd, tt_lmul, tt_i2l, tt_lcmp, tt_dupr, tt_dup2, tt_eq0, tt_lt0, tt_le0, tt_ge0, tt_gt0, tt_eq2, tt_lt2, tt_ge2, tt_gt2, tt_le2, tt_gr, tt_gi, tt_pi, tt_gl, tt_pl, tt_ia, tt_st, tt_ir, tt_zr, tt_lr, tt_vr, tt_cv, tt_cs, tt_max, tt_min, tt_rem, tt_xor, tt_len, tt_cp, tt_thr, tt_xv, tt_xs, k_sv, k_cl, k_kz, List.getElem?_cons_zero, List.getElem?_cons_succ, List.drop_succ_cons, List.drop_zero, List.take_succ_cons, List.take_zero, List.reverse_cons, List.reverse_nil, List.nil_append, List.cons_append, List.length_cons, List.length_nil, Option.toList_some, Option.toList_none, Nat.reduceAdd, Nat.reduceLeDiff, true_and, and_true, sp_I, sp_II, sp_III, sp_J, sp_JI, sp_JJ, sp_R2, sp_R5I, sp_V]
def fr_in (v lo hi : Int32) (M : Mm) : Option Rs := some (.inl (some (.int (bI (!bR v lo hi))), M))
theorem pr_in (ad : Nat → Nat) (x0 x1 x2 : Int32) (M : Mm) (r : Rs) (h : fr_in x0 x1 x2 M = some r) : T_X4_in_0 ad r [some (.int x0), some (.int x1), some (.int x2)] [] M := by
  cases h
  simp only [T_X4_in_15, T_X4_in_14, T_X4_in_0, tt_c, tt_lc, tt_il, tt_ll, tt_al, tt_is, tt_lsv, tt_as, tt_inc, tt_add, tt_sub, tt_mul, tt_and, tt_ladd, tt_lmul, tt_i2l, tt_lcmp, tt_dupr, tt_dup2, tt_eq0, tt_lt0, tt_le0, tt_ge0, tt_gt0, tt_eq2, tt_lt2, tt_ge2, tt_gt2, tt_le2, tt_gr, tt_gi, tt_pi, tt_gl, tt_pl, tt_ia, tt_st, tt_ir, tt_zr, tt_lr, tt_vr, tt_cv, tt_cs, tt_max, tt_min, tt_rem, tt_xor, tt_len, tt_cp, tt_thr, tt_xv, tt_xs, k_sv, k_cl, k_kz, List.getElem?_cons_zero, List.getElem?_cons_succ, List.drop_succ_cons, List.drop_zero, List.take_succ_cons, List.take_zero, List.reverse_cons, List.reverse_nil, List.nil_append, List.cons_append, List.length_cons, List.length_nil, Option.toList_some, Option.toList_none, Nat.reduceAdd, Nat.reduceLeDiff, true_and, and_true, sp_I, sp_II, sp_III, sp_J, sp_JI, sp_JJ, sp_R2, sp_R5I, sp_V]
  refine ⟨fun c1 => ?_, fun c1 => ⟨fun c2 => ?_, fun c2 => ?_⟩⟩
  · simp [bR, bI, c1]
  · simp [bR, bI, c1, Int32.not_le.mpr c2]
  · simp [bR, bI, c1, Int32.not_lt.mp c2]
theorem lt_of_le_pred {x : Int32} (n : Nat) (hn : n + 1 < 2 ^ 31) : x ≤ nI n ↔ x < nI (n + 1) := by
  rw [Int32.le_iff_toInt_le, Int32.lt_iff_toInt_lt, nI_toInt (by omega), nI_toInt (by omega)]
  omega
theorem bR_bM (x : Int32) : bR x 0 31 = bM x := by
  have h := lt_of_le_pred (x := x) 31 (by omega)
  simp only [bR, bM, show (31 : Int32) = nI 31 from rfl, show (32 : Int32) = nI 32 from rfl, h]
theorem bR_bS (x : Int32) : bR x 0 3 = bS x := by
  have h := lt_of_le_pred (x := x) 3 (by omega)
  simp only [bR, bS, show (3 : Int32) = nI 3 from rfl, show (4 : Int32) = nI 4 from rfl, h]
def fr_isMember (x : Int32) (M : Mm) : Option Rs := some (.inl (some (.int (bI (!bM x))), M))
theorem pr_isMember (ad : Nat → Nat) (x0 : Int32) (M : Mm) (r : Rs) (h : fr_isMember x0 M = some r) : T_X4_isMember_0 ad r (sp_III fr_in) [some (.int x0)] [] M := by
  cases h
  simp only [T_X4_isMember_0, tt_c, tt_lc, tt_il, tt_ll, tt_al, tt_is, tt_lsv, tt_as, tt_inc, tt_add, tt_sub, tt_mul, tt_and, tt_ladd, tt_lmul, tt_i2l, tt_lcmp, tt_dupr, tt_dup2, tt_eq0, tt_lt0, tt_le0, tt_ge0, tt_gt0, tt_eq2, tt_lt2, tt_ge2, tt_gt2, tt_le2, tt_gr, tt_gi, tt_pi, tt_gl, tt_pl, tt_ia, tt_st, tt_ir, tt_zr, tt_lr, tt_vr, tt_cv, tt_cs, tt_max, tt_min, tt_rem, tt_xor, tt_len, tt_cp, tt_thr, tt_xv, tt_xs, k_sv, k_cl, k_kz, List.getElem?_cons_zero, List.getElem?_cons_succ, List.drop_succ_cons, List.drop_zero, List.take_succ_cons, List.take_zero, List.reverse_cons, List.reverse_nil, List.nil_append, List.cons_append, List.length_cons, List.length_nil, Option.toList_some, Option.toList_none, Nat.reduceAdd, Nat.reduceLeDiff, true_and, and_true, sp_I, sp_II, sp_III, sp_J, sp_JI, sp_JJ, sp_R2, sp_R5I, sp_V, fr_in, bR_bM]
  exact bI_or _
def fr_isStripe (x : Int32) (M : Mm) : Option Rs := some (.inl (some (.int (bI (!bS x))), M))
theorem pr_isStripe (ad : Nat → Nat) (x0 : Int32) (M : Mm) (r : Rs) (h : fr_isStripe x0 M = some r) : T_X4_isStripe_0 ad r (sp_III fr_in) [some (.int x0)] [] M := by
  cases h
  simp only [T_X4_isStripe_0, tt_c, tt_lc, tt_il, tt_ll, tt_al, tt_is, tt_lsv, tt_as, tt_inc, tt_add, tt_sub, tt_mul, tt_and, tt_ladd, tt_lmul, tt_i2l, tt_lcmp, tt_dupr, tt_dup2, tt_eq0, tt_lt0, tt_le0, tt_ge0, tt_gt0, tt_eq2, tt_lt2, tt_ge2, tt_gt2, tt_le2, tt_gr, tt_gi, tt_pi, tt_gl, tt_pl, tt_ia, tt_st, tt_ir, tt_zr, tt_lr, tt_vr, tt_cv, tt_cs, tt_max, tt_min, tt_rem, tt_xor, tt_len, tt_cp, tt_thr, tt_xv, tt_xs, k_sv, k_cl, k_kz, List.getElem?_cons_zero, List.getElem?_cons_succ, List.drop_succ_cons, List.drop_zero, List.take_succ_cons, List.take_zero, List.reverse_cons, List.reverse_nil, List.nil_append, List.cons_append, List.length_cons, List.length_nil, Option.toList_some, Option.toList_none, Nat.reduceAdd, Nat.reduceLeDiff, true_and, and_true, sp_I, sp_II, sp_III, sp_J, sp_JI, sp_JJ, sp_R2, sp_R5I, sp_V, fr_in, bR_bS]
  exact bI_or _
def ieR (m : Re) (x s : Int32) : Bool := decide (¬ coR m x ≤ ciR m x s)
def fr_isInnerElsewhere (x s : Int32) (M : Mm) : Option Rs := if bS s = false then some (.inl (some (.int (bI (ieR (M.1 2) x s))), M)) else none
theorem pr_isInnerElsewhere (ad : Nat → Nat) (x0 x1 : Int32) (M : Mm) (r : Rs) (h : fr_isInnerElsewhere x0 x1 M = some r) : T_X4_isInnerElsewhere_0 ad r (sp_II fr_childrenIn) (sp_I fr_childrenOf) [some (.ref (ad 6)), some (.int x0), some (.int x1)] [] M := by
  unfold fr_isInnerElsewhere at h
  split at h
  · next hg =>
    cases h
    simp only [T_X4_isInnerElsewhere_19, T_X4_isInnerElsewhere_0, tt_c, tt_lc, tt_il, tt_ll, tt_al, tt_is, tt_lsv, tt_as, tt_inc, tt_add, tt_sub, tt_mul, tt_and, tt_ladd, tt_lmul, tt_i2l, tt_lcmp, tt_dupr, tt_dup2, tt_eq0, tt_lt0, tt_le0, tt_ge0, tt_gt0, tt_eq2, tt_lt2, tt_ge2, tt_gt2, tt_le2, tt_gr, tt_gi, tt_pi, tt_gl, tt_pl, tt_ia, tt_st, tt_ir, tt_zr, tt_lr, tt_vr, tt_cv, tt_cs, tt_max, tt_min, tt_rem, tt_xor, tt_len, tt_cp, tt_thr, tt_xv, tt_xs, k_sv, k_cl, k_kz, List.getElem?_cons_zero, List.getElem?_cons_succ, List.drop_succ_cons, List.drop_zero, List.take_succ_cons, List.take_zero, List.reverse_cons, List.reverse_nil, List.nil_append, List.cons_append, List.length_cons, List.length_nil, Option.toList_some, Option.toList_none, Nat.reduceAdd, Nat.reduceLeDiff, true_and, and_true, sp_I, sp_II, sp_III, sp_J, sp_JI, sp_JJ, sp_R2, sp_R5I, sp_V, fr_childrenIn, fr_childrenOf, hg, if_true]
    by_cases c1 : coR (M.1 2) x0 ≤ ciR (M.1 2) x0 x1 <;> simp [ieR, bI, c1]
  · cases h
def cbR (m : Re) (x s : Int32) : Bool := decide (¬ oR m x 1 ≤ 0) && !ieR m x s
def fr_canBeInner (x s : Int32) (M : Mm) : Option Rs := if bM x = false ∧ bS s = false then some (.inl (some (.int (bI (cbR (M.1 2) x s))), M)) else none
theorem pr_canBeInner (ad : Nat → Nat) (x0 x1 : Int32) (M : Mm) (r : Rs) (h : fr_canBeInner x0 x1 M = some r) : T_X4_canBeInner_0 ad r (sp_II fr_isInnerElsewhere) (sp_II fr_of) [some (.ref (ad 6)), some (.int x0), some (.int x1)] [] M := by
  unfold fr_canBeInner at h
  split at h
  · next hg =>
    cases h
    simp only [T_X4_canBeInner_23, T_X4_canBeInner_22, T_X4_canBeInner_0, tt_c, tt_lc, tt_il, tt_ll, tt_al, tt_is, tt_lsv, tt_as, tt_inc, tt_add, tt_sub, tt_mul, tt_and, tt_ladd, tt_lmul, tt_i2l, tt_lcmp, tt_dupr, tt_dup2, tt_eq0, tt_lt0, tt_le0, tt_ge0, tt_gt0, tt_eq2, tt_lt2, tt_ge2, tt_gt2, tt_le2, tt_gr, tt_gi, tt_pi, tt_gl, tt_pl, tt_ia, tt_st, tt_ir, tt_zr, tt_lr, tt_vr, tt_cv, tt_cs, tt_max, tt_min, tt_rem, tt_xor, tt_len, tt_cp, tt_thr, tt_xv, tt_xs, k_sv, k_cl, k_kz, List.getElem?_cons_zero, List.getElem?_cons_succ, List.drop_succ_cons, List.drop_zero, List.take_succ_cons, List.take_zero, List.reverse_cons, List.reverse_nil, List.nil_append, List.cons_append, List.length_cons, List.length_nil, Option.toList_some, Option.toList_none, Nat.reduceAdd, Nat.reduceLeDiff, true_and, and_true, sp_I, sp_II, sp_III, sp_J, sp_JI, sp_JJ, sp_R2, sp_R5I, sp_V, fr_of, fr_isInnerElsewhere, hg.1, hg.2, bW_1, and_self, if_true, bI_0]
    by_cases c1 : oR (M.1 2) x0 1 ≤ 0 <;> by_cases c2 : ieR (M.1 2) x0 x1 = true <;> simp [cbR, bI, c1, c2]
  · cases h
def rmR (m : Re) (a s : Int32) : Bool := if a = 100 then decide (¬ m 0 ≤ ciR m 100 s) else (decide (¬ dR m a s = -1) && decide (¬ oR m a 1 ≤ coR m a) && !ieR m a s)
def fr_isRoomy (a s : Int32) (M : Mm) : Option Rs := if bS s = false ∧ (a = 100 ∨ (bM a = false ∧ okR (M.1 2) a s = true)) then some (.inl (some (.int (bI (rmR (M.1 2) a s))), M)) else none
theorem pr_isRoomy (ad : Nat → Nat) (x0 x1 : Int32) (M : Mm) (r : Rs) (h : fr_isRoomy x0 x1 M = some r) : T_X4_isRoomy_0 ad r (sp_II fr_childrenIn) (sp_I fr_childrenOf) (sp_II fr_depthOf) (sp_II fr_isInnerElsewhere) (sp_II fr_of) [some (.ref (ad 6)), some (.int x0), some (.int x1)] [] M := by
  unfold fr_isRoomy at h
  split at h
  · next hg =>
    cases h
    obtain ⟨hs, hg⟩ := hg
    simp only [T_X4_isRoomy_27, T_X4_isRoomy_66, T_X4_isRoomy_65, T_X4_isRoomy_0, tt_c, tt_lc, tt_il, tt_ll, tt_al, tt_is, tt_lsv, tt_as, tt_inc, tt_add, tt_sub, tt_mul, tt_and, tt_ladd, tt_lmul, tt_i2l, tt_lcmp, tt_dupr, tt_dup2, tt_eq0, tt_lt0, tt_le0, tt_ge0, tt_gt0, tt_eq2, tt_lt2, tt_ge2, tt_gt2, tt_le2, tt_gr, tt_gi, tt_pi, tt_gl, tt_pl, tt_ia, tt_st, tt_ir, tt_zr, tt_lr, tt_vr, tt_cv, tt_cs, tt_max, tt_min, tt_rem, tt_xor, tt_len, tt_cp, tt_thr, tt_xv, tt_xs, k_sv, k_cl, k_kz, List.getElem?_cons_zero, List.getElem?_cons_succ, List.drop_succ_cons, List.drop_zero, List.take_succ_cons, List.take_zero, List.reverse_cons, List.reverse_nil, List.nil_append, List.cons_append, List.length_cons, List.length_nil, Option.toList_some, Option.toList_none, Nat.reduceAdd, Nat.reduceLeDiff, true_and, and_true, sp_I, sp_II, sp_III, sp_J, sp_JI, sp_JJ, sp_R2, sp_R5I, sp_V, fr_childrenIn, hs, if_true]
    refine ⟨fun c0 => ?_, fun c0 => ?_⟩
    · refine ⟨vp_in_nI (n := 0) (by omega) (by omega), fun c1 => ?_, fun c1 => ?_⟩
      · have c1' : (M.1 2) 0 ≤ ciR (M.1 2) 100 x1 := c1
        simp [rmR, bI, c0, c1']
      · have c1' : ¬ (M.1 2) 0 ≤ ciR (M.1 2) 100 x1 := c1
        simp [rmR, bI, c0, c1']
    · obtain ⟨hb, hok⟩ := hg.resolve_left c0
      simp only [tt_c, tt_lc, tt_il, tt_ll, tt_al, tt_is, tt_lsv, tt_as, tt_inc, tt_add, tt_sub, tt_mul, tt_and, tt_ladd, tt_lmul, tt_i2l, tt_lcmp, tt_dupr, tt_dup2, tt_eq0, tt_lt0, tt_le0, tt_ge0, tt_gt0, tt_eq2, tt_lt2, tt_ge2, tt_gt2, tt_le2, tt_gr, tt_gi, tt_pi, tt_gl, tt_pl, tt_ia, tt_st, tt_ir, tt_zr, tt_lr, tt_vr, tt_cv, tt_cs, tt_max, tt_min, tt_rem, tt_xor, tt_len, tt_cp, tt_thr, tt_xv, tt_xs, k_sv, k_cl, k_kz, List.getElem?_cons_zero, List.getElem?_cons_succ, List.drop_succ_cons, List.drop_zero, List.take_succ_cons, List.take_zero, List.reverse_cons, List.reverse_nil, List.nil_append, List.cons_append, List.length_cons, List.length_nil, Option.toList_some, Option.toList_none, Nat.reduceAdd, Nat.reduceLeDiff, true_and, and_true, sp_I, sp_II, sp_III, sp_J, sp_JI, sp_JJ, sp_R2, sp_R5I, sp_V, fr_depthOf, fr_childrenOf, fr_of, fr_isInnerElsewhere, hs, hb, hok, bW_1, and_self, if_true, bI_0]
      by_cases c1 : dR (M.1 2) x0 x1 = -1 <;> by_cases c2 : oR (M.1 2) x0 1 ≤ coR (M.1 2) x0 <;> by_cases c3 : ieR (M.1 2) x0 x1 = true <;> simp [rmR, bI, c0, c1, c2, c3]
  · cases h
def ahR (m : Re) (f g s : Int32) : Bool := if decide (oR m f 2 = s) = decide (oR m g 2 = s) then (if oR m f 1 = oR m g 1 then decide (¬ g ≤ f) else decide (¬ oR m f 1 ≤ oR m g 1)) else decide (oR m f 2 = s)
def fr_isAhead (f g s : Int32) (M : Mm) : Option Rs := if bM f = false ∧ bM g = false then some (.inl (some (.int (bI (ahR (M.1 2) f g s))), M)) else none
theorem pr_isAhead (ad : Nat → Nat) (x0 x1 x2 : Int32) (M : Mm) (r : Rs) (h : fr_isAhead x0 x1 x2 M = some r) : T_X4_isAhead_0 ad r (sp_II fr_of) [some (.ref (ad 6)), some (.int x0), some (.int x1), some (.int x2), none, none] [] M := by
  unfold fr_isAhead at h
  split at h
  · next hg =>
    cases h
    simp only [T_X4_isAhead_92, T_X4_isAhead_32, T_X4_isAhead_15, T_X4_isAhead_0, tt_c, tt_lc, tt_il, tt_ll, tt_al, tt_is, tt_lsv, tt_as, tt_inc, tt_add, tt_sub, tt_mul, tt_and, tt_ladd, tt_lmul, tt_i2l, tt_lcmp, tt_dupr, tt_dup2, tt_eq0, tt_lt0, tt_le0, tt_ge0, tt_gt0, tt_eq2, tt_lt2, tt_ge2, tt_gt2, tt_le2, tt_gr, tt_gi, tt_pi, tt_gl, tt_pl, tt_ia, tt_st, tt_ir, tt_zr, tt_lr, tt_vr, tt_cv, tt_cs, tt_max, tt_min, tt_rem, tt_xor, tt_len, tt_cp, tt_thr, tt_xv, tt_xs, k_sv, k_cl, k_kz, List.getElem?_cons_zero, List.getElem?_cons_succ, List.drop_succ_cons, List.drop_zero, List.take_succ_cons, List.take_zero, List.reverse_cons, List.reverse_nil, List.nil_append, List.cons_append, List.length_cons, List.length_nil, Option.toList_some, Option.toList_none, Nat.reduceAdd, Nat.reduceLeDiff, true_and, and_true, sp_I, sp_II, sp_III, sp_J, sp_JI, sp_JJ, sp_R2, sp_R5I, sp_V, fr_of, hg.1, hg.2, bW_1, bW_2, and_self, if_true]
    by_cases c1 : oR (M.1 2) x0 2 = x2 <;> by_cases c2 : oR (M.1 2) x1 2 = x2 <;> by_cases c3 : oR (M.1 2) x0 1 = oR (M.1 2) x1 1 <;> by_cases c4 : x1 ≤ x0 <;> by_cases c5 : oR (M.1 2) x0 1 ≤ oR (M.1 2) x1 1 <;> simp [ahR, bI, *]
  · cases h
/-- a member or none -/
def nMb (l : Int32) : Prop := l = -1 ∨ bM l = false
theorem nMb_fold {g : Nat → Int32 → Int32} (hg : ∀ x l, x < 32 → nMb l → nMb (g x l)) : ∀ n, n ≤ 32 → nMb (foldTo g (-1) n) := by
  intro n
  induction n with
  | zero => intro _; exact Or.inl rfl
  | succ n ih => intro h; exact hg n _ (by omega) (ih (by omega))
def lrF (m : Re) (a s : Int32) (x : Nat) (l : Int32) : Int32 := if icR m (nI x) a s = true then (if l = -1 then nI x else if ahR m l (nI x) s = true then nI x else l) else l
def lrR (m : Re) (a s : Int32) : Int32 := foldTo (lrF m a s) (-1) 32
theorem lrF_mb (m : Re) (a s : Int32) : ∀ x l, x < 32 → nMb l → nMb (lrF m a s x l) := by
  intro x l hx hl
  unfold lrF
  split
  · split
    · exact Or.inr (bM_n hx)
    · split
      · exact Or.inr (bM_n hx)
      · exact hl
  · exact hl
theorem lrR_mb (m : Re) (a s : Int32) : nMb (lrR m a s) := nMb_fold (lrF_mb m a s) 32 (Nat.le_refl _)
def fr_lastChild (a s : Int32) (M : Mm) : Option Rs := if bS s = false then some (.inl (some (.int (lrR (M.1 2) a s)), M)) else none
theorem pr_lastChild (ad : Nat → Nat) (x0 x1 : Int32) (M : Mm) (r : Rs) (h : fr_lastChild x0 x1 M = some r) : T_X4_lastChild_0 ad r (sp_III fr_isAhead) (sp_III fr_isChild) [some (.ref (ad 6)), some (.int x0), some (.int x1), none, none] [] M := by
  unfold fr_lastChild at h
  split at h
  · next hg =>
    cases h
    simp only [T_X4_lastChild_0, tt_c, tt_lc, tt_il, tt_ll, tt_al, tt_is, tt_lsv, tt_as, tt_inc, tt_add, tt_sub, tt_mul, tt_and, tt_ladd, tt_lmul, tt_i2l, tt_lcmp, tt_dupr, tt_dup2, tt_eq0, tt_lt0, tt_le0, tt_ge0, tt_gt0, tt_eq2, tt_lt2, tt_ge2, tt_gt2, tt_le2, tt_gr, tt_gi, tt_pi, tt_gl, tt_pl, tt_ia, tt_st, tt_ir, tt_zr, tt_lr, tt_vr, tt_cv, tt_cs, tt_max, tt_min, tt_rem, tt_xor, tt_len, tt_cp, tt_thr, tt_xv, tt_xs, k_sv, k_cl, k_kz, List.getElem?_cons_zero, List.getElem?_cons_succ, List.drop_succ_cons, List.drop_zero, List.take_succ_cons, List.take_zero, List.reverse_cons, List.reverse_nil, List.nil_append, List.cons_append, List.length_cons, List.length_nil, Option.toList_some, Option.toList_none, Nat.reduceAdd, Nat.reduceLeDiff, true_and, and_true, sp_I, sp_II, sp_III, sp_J, sp_JI, sp_JJ, sp_R2, sp_R5I, sp_V]
    refine lp_of (σ := Nat) (fun j => j ≤ 32) (fun j => [some (.ref (ad 6)), some (.int x0), some (.int x1), some (.int (foldTo (lrF (M.1 2) x0 x1) (-1) j)), some (.int (nI j))]) (fun _ => M) (fun j => 32 - j) ?_ 0 (by omega)
    intro k j hj hk
    have hmb := nMb_fold (lrF_mb (M.1 2) x0 x1) j hj
    simp only [T_X4_lastChild_45, T_X4_lastChild_39, T_X4_lastChild_44, T_X4_lastChild_5, T_X4_lastChild_0, tt_c, tt_lc, tt_il, tt_ll, tt_al, tt_is, tt_lsv, tt_as, tt_inc, tt_add, tt_sub, tt_mul, tt_and, tt_ladd, tt_lmul, tt_i2l, tt_lcmp, tt_dupr, tt_dup2, tt_eq0, tt_lt0, tt_le0, tt_ge0, tt_gt0, tt_eq2, tt_lt2, tt_ge2, tt_gt2, tt_le2, tt_gr, tt_gi, tt_pi, tt_gl, tt_pl, tt_ia, tt_st, tt_ir, tt_zr, tt_lr, tt_vr, tt_cv, tt_cs, tt_max, tt_min, tt_rem, tt_xor, tt_len, tt_cp, tt_thr, tt_xv, tt_xs, k_sv, k_cl, k_kz, List.getElem?_cons_zero, List.getElem?_cons_succ, List.drop_succ_cons, List.drop_zero, List.take_succ_cons, List.take_zero, List.reverse_cons, List.reverse_nil, List.nil_append, List.cons_append, List.length_cons, List.length_nil, Option.toList_some, Option.toList_none, Nat.reduceAdd, Nat.reduceLeDiff, true_and, and_true, sp_I, sp_II, sp_III, sp_J, sp_JI, sp_JJ, sp_R2, sp_R5I, sp_V, ge32 hj]
    refine ⟨fun c1 => ?_, fun c1 => ?_⟩
    · subst c1
      rfl
    · have hk1 := hk (j + 1) (by omega) (by omega)
      simp only [foldTo, nI_succ] at hk1
      generalize foldTo (lrF (M.1 2) x0 x1) (-1) j = l at hk1 hmb ⊢
      simp only [lrF] at hk1
      simp only [fr_isChild, bM_n (show j < 32 by omega), hg, and_self, if_true, tt_c, tt_lc, tt_il, tt_ll, tt_al, tt_is, tt_lsv, tt_as, tt_inc, tt_add, tt_sub, tt_mul, tt_and, tt_ladd, tt_lmul, tt_i2l, tt_lcmp, tt_dupr, tt_dup2, tt_eq0, tt_lt0, tt_le0, tt_ge0, tt_gt0, tt_eq2, tt_lt2, tt_ge2, tt_gt2, tt_le2, tt_gr, tt_gi, tt_pi, tt_gl, tt_pl, tt_ia, tt_st, tt_ir, tt_zr, tt_lr, tt_vr, tt_cv, tt_cs, tt_max, tt_min, tt_rem, tt_xor, tt_len, tt_cp, tt_thr, tt_xv, tt_xs, k_sv, k_cl, k_kz, List.getElem?_cons_zero, List.getElem?_cons_succ, List.drop_succ_cons, List.drop_zero, List.take_succ_cons, List.take_zero, List.reverse_cons, List.reverse_nil, List.nil_append, List.cons_append, List.length_cons, List.length_nil, Option.toList_some, Option.toList_none, Nat.reduceAdd, Nat.reduceLeDiff, true_and, and_true, sp_I, sp_II, sp_III, sp_J, sp_JI, sp_JJ, sp_R2, sp_R5I, sp_V, bI_0]
      refine ⟨fun c2 => ?_, fun c2 => ⟨fun c3 => ?_, fun c3 => ?_⟩⟩
      · simpa [c2] using hk1
      · simp only [Bool.not_eq_false] at c2
        simpa [c2, c3] using hk1
      · simp only [Bool.not_eq_false] at c2
        simp only [fr_isAhead, hmb.resolve_left c3, bM_n (show j < 32 by omega), and_self, if_true, tt_c, tt_lc, tt_il, tt_ll, tt_al, tt_is, tt_lsv, tt_as, tt_inc, tt_add, tt_sub, tt_mul, tt_and, tt_ladd, tt_lmul, tt_i2l, tt_lcmp, tt_dupr, tt_dup2, tt_eq0, tt_lt0, tt_le0, tt_ge0, tt_gt0, tt_eq2, tt_lt2, tt_ge2, tt_gt2, tt_le2, tt_gr, tt_gi, tt_pi, tt_gl, tt_pl, tt_ia, tt_st, tt_ir, tt_zr, tt_lr, tt_vr, tt_cv, tt_cs, tt_max, tt_min, tt_rem, tt_xor, tt_len, tt_cp, tt_thr, tt_xv, tt_xs, k_sv, k_cl, k_kz, List.getElem?_cons_zero, List.getElem?_cons_succ, List.drop_succ_cons, List.drop_zero, List.take_succ_cons, List.take_zero, List.reverse_cons, List.reverse_nil, List.nil_append, List.cons_append, List.length_cons, List.length_nil, Option.toList_some, Option.toList_none, Nat.reduceAdd, Nat.reduceLeDiff, true_and, and_true, sp_I, sp_II, sp_III, sp_J, sp_JI, sp_JJ, sp_R2, sp_R5I, sp_V, bI_0]
        refine ⟨fun c4 => ?_, fun c4 => ?_⟩ <;> simpa [c2, c3, c4] using hk1
  · cases h
def firF (m : Re) (a s : Int32) (x : Nat) (l : Int32) : Int32 := if icR m (nI x) a s = true then (if cbR m (nI x) s = false then l else if l = -1 then nI x else if ahR m (nI x) l s = true then nI x else l) else l
def firR (m : Re) (a s : Int32) : Int32 := foldTo (firF m a s) (-1) 32
theorem firF_mb (m : Re) (a s : Int32) : ∀ x l, x < 32 → nMb l → nMb (firF m a s x l) := by
  intro x l hx hl
  unfold firF
  split
  · split
    · exact hl
    · split
      · exact Or.inr (bM_n hx)
      · split
        · exact Or.inr (bM_n hx)
        · exact hl
  · exact hl
theorem firR_mb (m : Re) (a s : Int32) : nMb (firR m a s) := nMb_fold (firF_mb m a s) 32 (Nat.le_refl _)
def fr_firstInner (a s : Int32) (M : Mm) : Option Rs := if bS s = false then some (.inl (some (.int (firR (M.1 2) a s)), M)) else none
theorem pr_firstInner (ad : Nat → Nat) (x0 x1 : Int32) (M : Mm) (r : Rs) (h : fr_firstInner x0 x1 M = some r) : T_X4_firstInner_0 ad r (sp_II fr_canBeInner) (sp_III fr_isAhead) (sp_III fr_isChild) [some (.ref (ad 6)), some (.int x0), some (.int x1), none, none] [] M := by
  unfold fr_firstInner at h
  split at h
  · next hg =>
    cases h
    simp only [T_X4_firstInner_0, tt_c, tt_lc, tt_il, tt_ll, tt_al, tt_is, tt_lsv, tt_as, tt_inc, tt_add, tt_sub, tt_mul, tt_and, tt_ladd, tt_lmul, tt_i2l, tt_lcmp, tt_dupr, tt_dup2, tt_eq0, tt_lt0, tt_le0, tt_ge0, tt_gt0, tt_eq2, tt_lt2, tt_ge2, tt_gt2, tt_le2, tt_gr, tt_gi, tt_pi, tt_gl, tt_pl, tt_ia, tt_st, tt_ir, tt_zr, tt_lr, tt_vr, tt_cv, tt_cs, tt_max, tt_min, tt_rem, tt_xor, tt_len, tt_cp, tt_thr, tt_xv, tt_xs, k_sv, k_cl, k_kz, List.getElem?_cons_zero, List.getElem?_cons_succ, List.drop_succ_cons, List.drop_zero, List.take_succ_cons, List.take_zero, List.reverse_cons, List.reverse_nil, List.nil_append, List.cons_append, List.length_cons, List.length_nil, Option.toList_some, Option.toList_none, Nat.reduceAdd, Nat.reduceLeDiff, true_and, and_true, sp_I, sp_II, sp_III, sp_J, sp_JI, sp_JJ, sp_R2, sp_R5I, sp_V]
    refine lp_of (σ := Nat) (fun j => j ≤ 32) (fun j => [some (.ref (ad 6)), some (.int x0), some (.int x1), some (.int (foldTo (firF (M.1 2) x0 x1) (-1) j)), some (.int (nI j))]) (fun _ => M) (fun j => 32 - j) ?_ 0 (by omega)
    intro k j hj hk
    have hmb := nMb_fold (firF_mb (M.1 2) x0 x1) j hj
    simp only [T_X4_firstInner_55, T_X4_firstInner_49, T_X4_firstInner_54, T_X4_firstInner_5, T_X4_firstInner_0, tt_c, tt_lc, tt_il, tt_ll, tt_al, tt_is, tt_lsv, tt_as, tt_inc, tt_add, tt_sub, tt_mul, tt_and, tt_ladd, tt_lmul, tt_i2l, tt_lcmp, tt_dupr, tt_dup2, tt_eq0, tt_lt0, tt_le0, tt_ge0, tt_gt0, tt_eq2, tt_lt2, tt_ge2, tt_gt2, tt_le2, tt_gr, tt_gi, tt_pi, tt_gl, tt_pl, tt_ia, tt_st, tt_ir, tt_zr, tt_lr, tt_vr, tt_cv, tt_cs, tt_max, tt_min, tt_rem, tt_xor, tt_len, tt_cp, tt_thr, tt_xv, tt_xs, k_sv, k_cl, k_kz, List.getElem?_cons_zero, List.getElem?_cons_succ, List.drop_succ_cons, List.drop_zero, List.take_succ_cons, List.take_zero, List.reverse_cons, List.reverse_nil, List.nil_append, List.cons_append, List.length_cons, List.length_nil, Option.toList_some, Option.toList_none, Nat.reduceAdd, Nat.reduceLeDiff, true_and, and_true, sp_I, sp_II, sp_III, sp_J, sp_JI, sp_JJ, sp_R2, sp_R5I, sp_V, ge32 hj]
    refine ⟨fun c1 => ?_, fun c1 => ?_⟩
    · subst c1
      rfl
    · have hk1 := hk (j + 1) (by omega) (by omega)
      simp only [foldTo, nI_succ] at hk1
      generalize foldTo (firF (M.1 2) x0 x1) (-1) j = l at hk1 hmb ⊢
      simp only [firF] at hk1
      simp only [fr_isChild, fr_canBeInner, bM_n (show j < 32 by omega), hg, and_self, if_true, tt_c, tt_lc, tt_il, tt_ll, tt_al, tt_is, tt_lsv, tt_as, tt_inc, tt_add, tt_sub, tt_mul, tt_and, tt_ladd, tt_lmul, tt_i2l, tt_lcmp, tt_dupr, tt_dup2, tt_eq0, tt_lt0, tt_le0, tt_ge0, tt_gt0, tt_eq2, tt_lt2, tt_ge2, tt_gt2, tt_le2, tt_gr, tt_gi, tt_pi, tt_gl, tt_pl, tt_ia, tt_st, tt_ir, tt_zr, tt_lr, tt_vr, tt_cv, tt_cs, tt_max, tt_min, tt_rem, tt_xor, tt_len, tt_cp, tt_thr, tt_xv, tt_xs, k_sv, k_cl, k_kz, List.getElem?_cons_zero, List.getElem?_cons_succ, List.drop_succ_cons, List.drop_zero, List.take_succ_cons, List.take_zero, List.reverse_cons, List.reverse_nil, List.nil_append, List.cons_append, List.length_cons, List.length_nil, Option.toList_some, Option.toList_none, Nat.reduceAdd, Nat.reduceLeDiff, true_and, and_true, sp_I, sp_II, sp_III, sp_J, sp_JI, sp_JJ, sp_R2, sp_R5I, sp_V, bI_0]
      refine ⟨fun c2 => ?_, fun c2 => ⟨fun c5 => ?_, fun c5 => ⟨fun c3 => ?_, fun c3 => ?_⟩⟩⟩
      · simpa [c2] using hk1
      · simp only [Bool.not_eq_false] at c2
        simpa [c2, c5] using hk1
      · simp only [Bool.not_eq_false] at c2 c5
        simpa [c2, c3, c5] using hk1
      · simp only [Bool.not_eq_false] at c2 c5
        simp only [fr_isAhead, hmb.resolve_left c3, bM_n (show j < 32 by omega), and_self, if_true, tt_c, tt_lc, tt_il, tt_ll, tt_al, tt_is, tt_lsv, tt_as, tt_inc, tt_add, tt_sub, tt_mul, tt_and, tt_ladd, tt_lmul, tt_i2l, tt_lcmp, tt_dupr, tt_dup2, tt_eq0, tt_lt0, tt_le0, tt_ge0, tt_gt0, tt_eq2, tt_lt2, tt_ge2, tt_gt2, tt_le2, tt_gr, tt_gi, tt_pi, tt_gl, tt_pl, tt_ia, tt_st, tt_ir, tt_zr, tt_lr, tt_vr, tt_cv, tt_cs, tt_max, tt_min, tt_rem, tt_xor, tt_len, tt_cp, tt_thr, tt_xv, tt_xs, k_sv, k_cl, k_kz, List.getElem?_cons_zero, List.getElem?_cons_succ, List.drop_succ_cons, List.drop_zero, List.take_succ_cons, List.take_zero, List.reverse_cons, List.reverse_nil, List.nil_append, List.cons_append, List.length_cons, List.length_nil, Option.toList_some, Option.toList_none, Nat.reduceAdd, Nat.reduceLeDiff, true_and, and_true, sp_I, sp_II, sp_III, sp_J, sp_JI, sp_JJ, sp_R2, sp_R5I, sp_V, bI_0]
        refine ⟨fun c4 => ?_, fun c4 => ?_⟩ <;> simpa [c2, c3, c4, c5] using hk1
  · cases h
/-- every member that has joined comes to an end in this stripe -/
def wfR (m : Re) (s : Int32) : Bool := (List.range 32).all (fun j => !jR m (nI j) || okR m (nI j) s)
theorem wfR_at {m : Re} {s : Int32} (h : wfR m s = true) {j : Nat} (hj : j < 32) (hJ : jR m (nI j) = true) : okR m (nI j) s = true := by
  have := List.all_eq_true.mp h j (List.mem_range.mpr hj)
  rw [hJ] at this
  simpa using this
theorem wfR_of {m : Re} {s : Int32} (h : ∀ j, j < 32 → jR m (nI j) = true → okR m (nI j) s = true) : wfR m s = true := by
  refine List.all_eq_true.mpr fun j hj => ?_
  cases hJ : jR m (nI j) with
  | false => rfl
  | true => simpa using h j (List.mem_range.mp hj) hJ
def nrF (m : Re) (x s : Int32) (a : Nat) (q : Int32 × Int32) : Int32 × Int32 := if jR m (nI a) = false then q else if rmR m (nI a) s = false then q else if uR m (nI a) x s = false then (if q.1 = -1 then (nI a, dR m (nI a) s) else if q.2 ≤ dR m (nI a) s then q else (nI a, dR m (nI a) s)) else q
def nrR (m : Re) (x s : Int32) : Int32 := (fold2 (nrF m x s) (-1, 0) 32).1
theorem nrR_mb (m : Re) (x s : Int32) : nMb (nrR m x s) := by
  have key : ∀ n, n ≤ 32 → nMb (fold2 (nrF m x s) (-1, 0) n).1 := by
    intro n
    induction n with
    | zero => intro _; exact Or.inl rfl
    | succ n ih =>
      intro h
      have := ih (by omega)
      rw [fold2]
      unfold nrF
      split
      · exact this
      · split
        · exact this
        · split
          · split
            · exact Or.inr (bM_n (by omega))
            · split
              · exact this
              · exact Or.inr (bM_n (by omega))
          · exact this
  exact key 32 (Nat.le_refl _)
def fr_nearestRoom (x s : Int32) (M : Mm) : Option Rs := if bS s = false ∧ wfR (M.1 2) s = true then some (.inl (some (.int (nrR (M.1 2) x s)), M)) else none
theorem pr_nearestRoom (ad : Nat → Nat) (x0 x1 : Int32) (M : Mm) (r : Rs) (h : fr_nearestRoom x0 x1 M = some r) : T_X4_nearestRoom_0 ad r (sp_II fr_depthOf) (sp_I fr_isJoined) (sp_II fr_isRoomy) (sp_III fr_isUnder) [some (.ref (ad 6)), some (.int x0), some (.int x1), none, none, none] [] M := by
  unfold fr_nearestRoom at h
  split at h
  · next hg =>
    cases h
    obtain ⟨hs, hw⟩ := hg
    simp only [T_X4_nearestRoom_0, tt_c, tt_lc, tt_il, tt_ll, tt_al, tt_is, tt_lsv, tt_as, tt_inc, tt_add, tt_sub, tt_mul, tt_and, tt_ladd, tt_lmul, tt_i2l, tt_lcmp, tt_dupr, tt_dup2, tt_eq0, tt_lt0, tt_le0, tt_ge0, tt_gt0, tt_eq2, tt_lt2, tt_ge2, tt_gt2, tt_le2, tt_gr, tt_gi, tt_pi, tt_gl, tt_pl, tt_ia, tt_st, tt_ir, tt_zr, tt_lr, tt_vr, tt_cv, tt_cs, tt_max, tt_min, tt_rem, tt_xor, tt_len, tt_cp, tt_thr, tt_xv, tt_xs, k_sv, k_cl, k_kz, List.getElem?_cons_zero, List.getElem?_cons_succ, List.drop_succ_cons, List.drop_zero, List.take_succ_cons, List.take_zero, List.reverse_cons, List.reverse_nil, List.nil_append, List.cons_append, List.length_cons, List.length_nil, Option.toList_some, Option.toList_none, Nat.reduceAdd, Nat.reduceLeDiff, true_and, and_true, sp_I, sp_II, sp_III, sp_J, sp_JI, sp_JJ, sp_R2, sp_R5I, sp_V]
    refine lp_of (σ := Nat) (fun j => j ≤ 32) (fun j => [some (.ref (ad 6)), some (.int x0), some (.int x1), some (.int (fold2 (nrF (M.1 2) x0 x1) (-1, 0) j).1), some (.int (fold2 (nrF (M.1 2) x0 x1) (-1, 0) j).2), some (.int (nI j))]) (fun _ => M) (fun j => 32 - j) ?_ 0 (by omega)
    intro k j hj hk
    simp only [T_X4_nearestRoom_74, T_X4_nearestRoom_62, T_X4_nearestRoom_8, T_X4_nearestRoom_0, tt_c, tt_lc, tt_il, tt_ll, tt_al, tt_is, tt_lsv, tt_as, tt_inc, tt_add, tt_sub, tt_mul, tt_and, tt_ladd, tt_lmul, tt_i2l, tt_lcmp, tt_dupr, tt_dup2, tt_eq0, tt_lt0, tt_le0, tt_ge0, tt_gt0, tt_eq2, tt_lt2, tt_ge2, tt_gt2, tt_le2, tt_gr, tt_gi, tt_pi, tt_gl, tt_pl, tt_ia, tt_st, tt_ir, tt_zr, tt_lr, tt_vr, tt_cv, tt_cs, tt_max, tt_min, tt_rem, tt_xor, tt_len, tt_cp, tt_thr, tt_xv, tt_xs, k_sv, k_cl, k_kz, List.getElem?_cons_zero, List.getElem?_cons_succ, List.drop_succ_cons, List.drop_zero, List.take_succ_cons, List.take_zero, List.reverse_cons, List.reverse_nil, List.nil_append, List.cons_append, List.length_cons, List.length_nil, Option.toList_some, Option.toList_none, Nat.reduceAdd, Nat.reduceLeDiff, true_and, and_true, sp_I, sp_II, sp_III, sp_J, sp_JI, sp_JJ, sp_R2, sp_R5I, sp_V, ge32 hj]
    refine ⟨fun c1 => ?_, fun c1 => ?_⟩
    · subst c1
      rfl
    · have hk1 := hk (j + 1) (by omega) (by omega)
      simp only [fold2, nI_succ] at hk1
      generalize fold2 (nrF (M.1 2) x0 x1) (-1, 0) j = l at hk1 ⊢
      obtain ⟨l1, l2⟩ := l
      simp only [nrF] at hk1
      have hM := bM_n (show j < 32 by omega)
      simp only [fr_isJoined, hM, if_true, tt_c, tt_lc, tt_il, tt_ll, tt_al, tt_is, tt_lsv, tt_as, tt_inc, tt_add, tt_sub, tt_mul, tt_and, tt_ladd, tt_lmul, tt_i2l, tt_lcmp, tt_dupr, tt_dup2, tt_eq0, tt_lt0, tt_le0, tt_ge0, tt_gt0, tt_eq2, tt_lt2, tt_ge2, tt_gt2, tt_le2, tt_gr, tt_gi, tt_pi, tt_gl, tt_pl, tt_ia, tt_st, tt_ir, tt_zr, tt_lr, tt_vr, tt_cv, tt_cs, tt_max, tt_min, tt_rem, tt_xor, tt_len, tt_cp, tt_thr, tt_xv, tt_xs, k_sv, k_cl, k_kz, List.getElem?_cons_zero, List.getElem?_cons_succ, List.drop_succ_cons, List.drop_zero, List.take_succ_cons, List.take_zero, List.reverse_cons, List.reverse_nil, List.nil_append, List.cons_append, List.length_cons, List.length_nil, Option.toList_some, Option.toList_none, Nat.reduceAdd, Nat.reduceLeDiff, true_and, and_true, sp_I, sp_II, sp_III, sp_J, sp_JI, sp_JJ, sp_R2, sp_R5I, sp_V, bI_0]
      refine ⟨fun c2 => ?_, fun c2 => ?_⟩
      · simpa [c2] using hk1
      · simp only [Bool.not_eq_false] at c2
        have hok := wfR_at hw (show j < 32 by omega) c2
        simp only [fr_isRoomy, fr_isUnder, fr_depthOf, hs, hM, hok, and_self, or_true, if_true, tt_c, tt_lc, tt_il, tt_ll, tt_al, tt_is, tt_lsv, tt_as, tt_inc, tt_add, tt_sub, tt_mul, tt_and, tt_ladd, tt_lmul, tt_i2l, tt_lcmp, tt_dupr, tt_dup2, tt_eq0, tt_lt0, tt_le0, tt_ge0, tt_gt0, tt_eq2, tt_lt2, tt_ge2, tt_gt2, tt_le2, tt_gr, tt_gi, tt_pi, tt_gl, tt_pl, tt_ia, tt_st, tt_ir, tt_zr, tt_lr, tt_vr, tt_cv, tt_cs, tt_max, tt_min, tt_rem, tt_xor, tt_len, tt_cp, tt_thr, tt_xv, tt_xs, k_sv, k_cl, k_kz, List.getElem?_cons_zero, List.getElem?_cons_succ, List.drop_succ_cons, List.drop_zero, List.take_succ_cons, List.take_zero, List.reverse_cons, List.reverse_nil, List.nil_append, List.cons_append, List.length_cons, List.length_nil, Option.toList_some, Option.toList_none, Nat.reduceAdd, Nat.reduceLeDiff, true_and, and_true, sp_I, sp_II, sp_III, sp_J, sp_JI, sp_JJ, sp_R2, sp_R5I, sp_V, bI_0]
        refine ⟨fun c3 => ?_, fun c3 => ⟨fun c4 => ⟨fun c5 => ?_, fun c5 => ⟨fun c6 => ?_, fun c6 => ?_⟩⟩, fun c4 => ?_⟩⟩
        all_goals (try simp only [Bool.not_eq_false] at c3)
        all_goals (try simp only [Bool.not_eq_false] at c4)
        all_goals simpa [*] using hk1
  · cases h
def gtO (m : Re) (s more : Int32) : Nat → Int32 → Option Bool
  | 0, _ => none
  | n + 1, p => if p = 100 then some true else if p = -1 then some false else if bM p = false then (if ¬ oR m p 3 = 0 then some false else if p = more then some false else gtO m s more n (oR m p (8 + s))) else none
theorem gtO_ok (m : Re) (s a : Int32) : ∀ (n : Nat) (k p : Int32), (drO m s n k p).isSome = true → (gtO m s a n p).isSome = true := by
  intro n
  induction n with
  | zero => intro k p h; cases h
  | succ n ih =>
    intro k p h
    rw [drO] at h
    rw [gtO]
    split
    · rfl
    · next c1 =>
      rw [if_neg c1] at h
      split
      · rfl
      · next c2 =>
        rw [if_neg c2] at h
        split at h
        · next hp =>
          rw [if_pos hp]
          split
          · rfl
          · split
            · rfl
            · exact ih _ _ h
        · cases h
def gtR (m : Re) (x s more : Int32) : Bool := (gtO m s more 34 x).getD false
def fr_gets (x s more : Int32) (M : Mm) : Option Rs := if bS s = false ∧ okR (M.1 2) x s = true ∧ ¬ more = 100 then some (.inl (some (.int (bI (gtR (M.1 2) x s more))), M)) else none
theorem pr_gets (ad : Nat → Nat) (x0 x1 x2 : Int32) (M : Mm) (r : Rs) (h : fr_gets x0 x1 x2 M = some r) : T_X4_gets_0 ad r (sp_II fr_of) [some (.ref (ad 6)), some (.int x0), some (.int x1), some (.int x2), none] [] M := by
  unfold fr_gets at h
  split at h
  · next hg =>
    cases h
    obtain ⟨hs, hok, hmo⟩ := hg
    obtain ⟨d, hd⟩ := Option.isSome_iff_exists.mp (gtO_ok _ _ x2 _ _ _ hok)
    have hdR : gtR (M.1 2) x0 x1 x2 = d := by simp [gtR, hd]
    rw [hdR]
    simp only [T_X4_gets_0, tt_c, tt_lc, tt_il, tt_ll, tt_al, tt_is, tt_lsv, tt_as, tt_inc, tt_add, tt_sub, tt_mul, tt_and, tt_ladd, tt_lmul, tt_i2l, tt_lcmp, tt_dupr, tt_dup2, tt_eq0, tt_lt0, tt_le0, tt_ge0, tt_gt0, tt_eq2, tt_lt2, tt_ge2, tt_gt2, tt_le2, tt_gr, tt_gi, tt_pi, tt_gl, tt_pl, tt_ia, tt_st, tt_ir, tt_zr, tt_lr, tt_vr, tt_cv, tt_cs, tt_max, tt_min, tt_rem, tt_xor, tt_len, tt_cp, tt_thr, tt_xv, tt_xs, k_sv, k_cl, k_kz, List.getElem?_cons_zero, List.getElem?_cons_succ, List.drop_succ_cons, List.drop_zero, List.take_succ_cons, List.take_zero, List.reverse_cons, List.reverse_nil, List.nil_append, List.cons_append, List.length_cons, List.length_nil, Option.toList_some, Option.toList_none, Nat.reduceAdd, Nat.reduceLeDiff, true_and, and_true, sp_I, sp_II, sp_III, sp_J, sp_JI, sp_JJ, sp_R2, sp_R5I, sp_V]
    refine lp_of (σ := Nat × Int32) (fun q => gtO (M.1 2) x1 x2 q.1 q.2 = some d) (fun q => [some (.ref (ad 6)), some (.int x0), some (.int x1), some (.int x2), some (.int q.2)]) (fun _ => M) (fun q => q.1) ?_ (34, x0) hd
    rintro k ⟨n, p⟩ hd hk
    dsimp only at hd
    cases n with
    | zero => cases hd
    | succ n =>
      rw [gtO] at hd
      simp only [T_X4_gets_59, T_X4_gets_47, T_X4_gets_3, T_X4_gets_0, tt_c, tt_lc, tt_il, tt_ll, tt_al, tt_is, tt_lsv, tt_as, tt_inc, tt_add, tt_sub, tt_mul, tt_and, tt_ladd, tt_lmul, tt_i2l, tt_lcmp, tt_dupr, tt_dup2, tt_eq0, tt_lt0, tt_le0, tt_ge0, tt_gt0, tt_eq2, tt_lt2, tt_ge2, tt_gt2, tt_le2, tt_gr, tt_gi, tt_pi, tt_gl, tt_pl, tt_ia, tt_st, tt_ir, tt_zr, tt_lr, tt_vr, tt_cv, tt_cs, tt_max, tt_min, tt_rem, tt_xor, tt_len, tt_cp, tt_thr, tt_xv, tt_xs, k_sv, k_cl, k_kz, List.getElem?_cons_zero, List.getElem?_cons_succ, List.drop_succ_cons, List.drop_zero, List.take_succ_cons, List.take_zero, List.reverse_cons, List.reverse_nil, List.nil_append, List.cons_append, List.length_cons, List.length_nil, Option.toList_some, Option.toList_none, Nat.reduceAdd, Nat.reduceLeDiff, true_and, and_true, sp_I, sp_II, sp_III, sp_J, sp_JI, sp_JJ, sp_R2, sp_R5I, sp_V]
      refine ⟨fun c1 => ?_, fun c1 => ⟨fun c2 => ?_, fun c2 => ?_⟩⟩
      · rw [if_pos c1] at hd
        cases hd
        simp [c1, bI]
      · rw [if_neg c1, if_pos c2] at hd
        cases hd
        simp [c1, bI]
      · rw [if_neg c1, if_neg c2] at hd
        split at hd
        · next hp =>
          simp only [fr_of, hp, bW_3, bW_8 hs, and_self, if_true, tt_c, tt_lc, tt_il, tt_ll, tt_al, tt_is, tt_lsv, tt_as, tt_inc, tt_add, tt_sub, tt_mul, tt_and, tt_ladd, tt_lmul, tt_i2l, tt_lcmp, tt_dupr, tt_dup2, tt_eq0, tt_lt0, tt_le0, tt_ge0, tt_gt0, tt_eq2, tt_lt2, tt_ge2, tt_gt2, tt_le2, tt_gr, tt_gi, tt_pi, tt_gl, tt_pl, tt_ia, tt_st, tt_ir, tt_zr, tt_lr, tt_vr, tt_cv, tt_cs, tt_max, tt_min, tt_rem, tt_xor, tt_len, tt_cp, tt_thr, tt_xv, tt_xs, k_sv, k_cl, k_kz, List.getElem?_cons_zero, List.getElem?_cons_succ, List.drop_succ_cons, List.drop_zero, List.take_succ_cons, List.take_zero, List.reverse_cons, List.reverse_nil, List.nil_append, List.cons_append, List.length_cons, List.length_nil, Option.toList_some, Option.toList_none, Nat.reduceAdd, Nat.reduceLeDiff, true_and, and_true, sp_I, sp_II, sp_III, sp_J, sp_JI, sp_JJ, sp_R2, sp_R5I, sp_V]
          refine ⟨fun c3 => ⟨fun c4 => ?_, fun c4 => ?_⟩, fun c3 => ?_⟩
          · rw [if_neg (fun z => z c3), if_pos c4] at hd
            cases hd
            simp [c1, bI]
          · rw [if_neg (fun z => z c3), if_neg c4] at hd
            exact hk (n, oR (M.1 2) p (8 + x1)) hd (by dsimp only; omega)
          · rw [if_pos c3] at hd
            cases hd
            simp [c1, bI]
        · cases hd
  · cases h
/-- in every stripe -/
def okA (m : Re) (x : Int32) : Bool := okR m x 0 && okR m x 1 && okR m x 2 && okR m x 3
theorem okA_at {m : Re} {x : Int32} (h : okA m x = true) {j : Nat} (hj : j < 4) : okR m x (nI j) = true := by
  simp only [okA, Bool.and_eq_true] at h
  obtain ⟨⟨⟨h0, h1⟩, h2⟩, h3⟩ := h
  match j, hj with
  | 0, _ => exact h0
  | 1, _ => exact h1
  | 2, _ => exact h2
  | 3, _ => exact h3
def prR (m : Re) (x more : Int32) : Int32 := sumTo (fun s => bI (gtR m x (nI s) more)) 4
def fr_piecesOf (x more : Int32) (M : Mm) : Option Rs := if okA (M.1 2) x = true ∧ ¬ more = 100 then some (.inl (some (.int (prR (M.1 2) x more)), M)) else none
theorem pr_piecesOf (ad : Nat → Nat) (x0 x1 : Int32) (M : Mm) (r : Rs) (h : fr_piecesOf x0 x1 M = some r) : T_X4_piecesOf_0 ad r (sp_III fr_gets) [some (.ref (ad 6)), some (.int x0), some (.int x1), none, none] [] M := by
  unfold fr_piecesOf at h
  split at h
  · next hg =>
    cases h
    simp only [T_X4_piecesOf_0, tt_c, tt_lc, tt_il, tt_ll, tt_al, tt_is, tt_lsv, tt_as, tt_inc, tt_add, tt_sub, tt_mul, tt_and, tt_ladd, tt_lmul, tt_i2l, tt_lcmp, tt_dupr, tt_dup2, tt_eq0, tt_lt0, tt_le0, tt_ge0, tt_gt0, tt_eq2, tt_lt2, tt_ge2, tt_gt2, tt_le2, tt_gr, tt_gi, tt_pi, tt_gl, tt_pl, tt_ia, tt_st, tt_ir, tt_zr, tt_lr, tt_vr, tt_cv, tt_cs, tt_max, tt_min, tt_rem, tt_xor, tt_len, tt_cp, tt_thr, tt_xv, tt_xs, k_sv, k_cl, k_kz, List.getElem?_cons_zero, List.getElem?_cons_succ, List.drop_succ_cons, List.drop_zero, List.take_succ_cons, List.take_zero, List.reverse_cons, List.reverse_nil, List.nil_append, List.cons_append, List.length_cons, List.length_nil, Option.toList_some, Option.toList_none, Nat.reduceAdd, Nat.reduceLeDiff, true_and, and_true, sp_I, sp_II, sp_III, sp_J, sp_JI, sp_JJ, sp_R2, sp_R5I, sp_V]
    refine lp_of (σ := Nat) (fun j => j ≤ 4) (fun j => [some (.ref (ad 6)), some (.int x0), some (.int x1), some (.int (sumTo (fun s => bI (gtR (M.1 2) x0 (nI s) x1)) j)), some (.int (nI j))]) (fun _ => M) (fun j => 4 - j) ?_ 0 (by omega)
    intro k j hj hk
    simp only [T_X4_piecesOf_28, T_X4_piecesOf_5, T_X4_piecesOf_0, tt_c, tt_lc, tt_il, tt_ll, tt_al, tt_is, tt_lsv, tt_as, tt_inc, tt_add, tt_sub, tt_mul, tt_and, tt_ladd, tt_lmul, tt_i2l, tt_lcmp, tt_dupr, tt_dup2, tt_eq0, tt_lt0, tt_le0, tt_ge0, tt_gt0, tt_eq2, tt_lt2, tt_ge2, tt_gt2, tt_le2, tt_gr, tt_gi, tt_pi, tt_gl, tt_pl, tt_ia, tt_st, tt_ir, tt_zr, tt_lr, tt_vr, tt_cv, tt_cs, tt_max, tt_min, tt_rem, tt_xor, tt_len, tt_cp, tt_thr, tt_xv, tt_xs, k_sv, k_cl, k_kz, List.getElem?_cons_zero, List.getElem?_cons_succ, List.drop_succ_cons, List.drop_zero, List.take_succ_cons, List.take_zero, List.reverse_cons, List.reverse_nil, List.nil_append, List.cons_append, List.length_cons, List.length_nil, Option.toList_some, Option.toList_none, Nat.reduceAdd, Nat.reduceLeDiff, true_and, and_true, sp_I, sp_II, sp_III, sp_J, sp_JI, sp_JJ, sp_R2, sp_R5I, sp_V, ge4 hj]
    refine ⟨fun c1 => ?_, fun c1 => ?_⟩
    · subst c1
      rfl
    · simp only [fr_gets, bS_n (show j < 4 by omega), okA_at hg.1 (show j < 4 by omega), hg.2, not_false_eq_true, and_self, if_true, bI_0, tt_c, tt_lc, tt_il, tt_ll, tt_al, tt_is, tt_lsv, tt_as, tt_inc, tt_add, tt_sub, tt_mul, tt_and, tt_ladd, tt_lmul, tt_i2l, tt_lcmp, tt_dupr, tt_dup2, tt_eq0, tt_lt0, tt_le0, tt_ge0, tt_gt0, tt_eq2, tt_lt2, tt_ge2, tt_gt2, tt_le2, tt_gr, tt_gi, tt_pi, tt_gl, tt_pl, tt_ia, tt_st, tt_ir, tt_zr, tt_lr, tt_vr, tt_cv, tt_cs, tt_max, tt_min, tt_rem, tt_xor, tt_len, tt_cp, tt_thr, tt_xv, tt_xs, k_sv, k_cl, k_kz, List.getElem?_cons_zero, List.getElem?_cons_succ, List.drop_succ_cons, List.drop_zero, List.take_succ_cons, List.take_zero, List.reverse_cons, List.reverse_nil, List.nil_append, List.cons_append, List.length_cons, List.length_nil, Option.toList_some, Option.toList_none, Nat.reduceAdd, Nat.reduceLeDiff, true_and, and_true, sp_I, sp_II, sp_III, sp_J, sp_JI, sp_JJ, sp_R2, sp_R5I, sp_V]
      refine ⟨fun c2 => ?_, fun c2 => ?_⟩
      · simpa [sumTo, nI_succ, c2, bI_t, bI_f] using hk (j + 1) (by omega) (by omega)
      · simp only [Bool.not_eq_false] at c2
        simpa [sumTo, nI_succ, c2, bI_t, bI_f] using hk (j + 1) (by omega) (by omega)
  · cases h
