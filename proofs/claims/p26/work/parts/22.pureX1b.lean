/-! the class's trees: the rest of its readers -/
def figC (c : Ce) (k : Int32) : Int32 := if k < 0 ∨ ¬ k < 11 then 0 else c (448 + k).toNatClampNeg
theorem k_fin {k : Int32} (h0 : ¬ k < 0) (h1 : k < 11) : vp_in (448 + k) 459 := by
  obtain ⟨j, hj, rfl⟩ := k_ix (N := 11) (by decide) h0 h1
  rw [show (448 : Int32) = nI 448 from rfl, nI_add]
  exact vp_in_nI (by omega) (by omega)
def f_figure (k : Int32) (M : Mm) : Option Rs := some (.inl (some (.int (figC (M.1 0) k)), M))
theorem p_figure (ad : Nat → Nat) (x0 : Int32) (M : Mm) (r : Rs) (h : f_figure x0 M = some r) : T_X0_figure_0 ad r [some (.ref (ad 2)), some (.int x0)] [] M := by
  cases h
  simp only [T_X0_figure_10, T_X0_figure_0, tt_c, tt_lc, tt_il, tt_ll, tt_al, tt_is, tt_lsv, tt_as, tt_inc, tt_add, tt_sub, tt_mul, tt_and, tt_ladd, tt_lmul, tt_i2l, tt_lcmp, tt_dupr, tt_dup2, tt_eq0, tt_lt0, tt_le0, tt_ge0, tt_gt0, tt_eq2, tt_lt2, tt_ge2, tt_gt2, tt_le2, tt_gr, tt_gi, tt_pi, tt_gl, tt_pl, tt_ia, tt_st, tt_ir, tt_zr, tt_lr, tt_vr, tt_cv, tt_cs, tt_max, tt_min, tt_rem, tt_xor, tt_len, tt_cp, tt_thr, tt_xv, tt_xs, k_sv, k_cl, k_kz, List.getElem?_cons_zero, List.getElem?_cons_succ, List.drop_succ_cons, List.drop_zero, List.take_succ_cons, List.take_zero, List.reverse_cons, List.reverse_nil, List.nil_append, List.cons_append, List.length_cons, List.length_nil, Option.toList_some, Option.toList_none, Nat.reduceAdd, Nat.reduceLeDiff, true_and, and_true, sp_I, sp_II, sp_III, sp_JI, sp_JJ, sp_R2, sp_R5I, sp_V]
  refine ⟨fun c1 => ?_, fun c1 => ⟨fun c2 => ⟨k_fin c1 c2, ?_⟩, fun c2 => ?_⟩⟩ <;> simp [figC, *]
def rmC (c : Ce) (p s : Int32) : Bool := if p = 100 then decide (¬ figC c 9 ≤ chC c 100 s) else (cbC c p s && decide (¬ vC c p 1 ≤ vC c p 5) && decide (¬ dC c p s = -1))
def f_isRoomAt (p s : Int32) (M : Mm) : Option Rs := some (.inl (some (.int (bI (rmC (M.1 0) p s))), M))
theorem p_isRoomAt (ad : Nat → Nat) (x0 x1 : Int32) (M : Mm) (r : Rs) (h : f_isRoomAt x0 x1 M = some r) : T_X1_isRoomAt_0 ad r (sp_I f_figure) (sp_II f_value) (sp_II f_canBeInner) (sp_II f_childrenAt) (sp_II f_depthOf) [some (.ref (ad 1)), some (.int x0), some (.int x1)] [] M := by
  cases h
  simp only [T_X1_isRoomAt_30, T_X1_isRoomAt_76, T_X1_isRoomAt_75, T_X1_isRoomAt_0, tt_c, tt_lc, tt_il, tt_ll, tt_al, tt_is, tt_lsv, tt_as, tt_inc, tt_add, tt_sub, tt_mul, tt_and, tt_ladd, tt_lmul, tt_i2l, tt_lcmp, tt_dupr, tt_dup2, tt_eq0, tt_lt0, tt_le0, tt_ge0, tt_gt0, tt_eq2, tt_lt2, tt_ge2, tt_gt2, tt_le2, tt_gr, tt_gi, tt_pi, tt_gl, tt_pl, tt_ia, tt_st, tt_ir, tt_zr, tt_lr, tt_vr, tt_cv, tt_cs, tt_max, tt_min, tt_rem, tt_xor, tt_len, tt_cp, tt_thr, tt_xv, tt_xs, k_sv, k_cl, k_kz, List.getElem?_cons_zero, List.getElem?_cons_succ, List.drop_succ_cons, List.drop_zero, List.take_succ_cons, List.take_zero, List.reverse_cons, List.reverse_nil, List.nil_append, List.cons_append, List.length_cons, List.length_nil, Option.toList_some, Option.toList_none, Nat.reduceAdd, Nat.reduceLeDiff, true_and, and_true, sp_I, sp_II, sp_III, sp_JI, sp_JJ, sp_R2, sp_R5I, sp_V, f_figure, f_value, f_canBeInner, f_childrenAt, f_depthOf, bI_0]
  refine ⟨fun c1 => ⟨fun c2 => ?_, fun c2 => ?_⟩, fun c1 => ⟨fun c2 => ?_, fun c2 => ⟨fun c3 => ?_, fun c3 => ⟨fun c4 => ?_, fun c4 => ?_⟩⟩⟩⟩ <;> simp [rmC, bI, *]
def beC (c : Ce) (f g s : Int32) : Bool := if decide (vC c f 2 = s) = decide (vC c g 2 = s) then (if vC c f 1 = vC c g 1 then decide (¬ g ≤ f) else decide (¬ vC c f 1 ≤ vC c g 1)) else decide (vC c f 2 = s)
def f_isBefore (f g s : Int32) (M : Mm) : Option Rs := some (.inl (some (.int (bI (beC (M.1 0) f g s))), M))
theorem p_isBefore (ad : Nat → Nat) (x0 x1 x2 : Int32) (M : Mm) (r : Rs) (h : f_isBefore x0 x1 x2 M = some r) : T_X1_isBefore_0 ad r (sp_II f_value) [some (.ref (ad 1)), some (.int x0), some (.int x1), some (.int x2), none, none, none, none] [] M := by
  cases h
  simp only [T_X1_isBefore_104, T_X1_isBefore_38, T_X1_isBefore_18, T_X1_isBefore_0, tt_c, tt_lc, tt_il, tt_ll, tt_al, tt_is, tt_lsv, tt_as, tt_inc, tt_add, tt_sub, tt_mul, tt_and, tt_ladd, tt_lmul, tt_i2l, tt_lcmp, tt_dupr, tt_dup2, tt_eq0, tt_lt0, tt_le0, tt_ge0, tt_gt0, tt_eq2, tt_lt2, tt_ge2, tt_gt2, tt_le2, tt_gr, tt_gi, tt_pi, tt_gl, tt_pl, tt_ia, tt_st, tt_ir, tt_zr, tt_lr, tt_vr, tt_cv, tt_cs, tt_max, tt_min, tt_rem, tt_xor, tt_len, tt_cp, tt_thr, tt_xv, tt_xs, k_sv, k_cl, k_kz, List.getElem?_cons_zero, List.getElem?_cons_succ, List.drop_succ_cons, List.drop_zero, List.take_succ_cons, List.take_zero, List.reverse_cons, List.reverse_nil, List.nil_append, List.cons_append, List.length_cons, List.length_nil, Option.toList_some, Option.toList_none, Nat.reduceAdd, Nat.reduceLeDiff, true_and, and_true, sp_I, sp_II, sp_III, sp_JI, sp_JJ, sp_R2, sp_R5I, sp_V, f_value]
  by_cases c1 : vC (M.1 0) x0 2 = x2 <;> by_cases c2 : vC (M.1 0) x1 2 = x2 <;> by_cases c3 : vC (M.1 0) x0 1 = vC (M.1 0) x1 1 <;> by_cases c4 : x1 ≤ x0 <;> by_cases c5 : vC (M.1 0) x0 1 ≤ vC (M.1 0) x1 1 <;> simp [beC, bI, *]
def lcF (c : Ce) (a s : Int32) (x : Nat) (l : Int32) : Int32 := if pC c (nI x) s = a then (if l = -1 then nI x else if beC c l (nI x) s = true then nI x else l) else l
def lcC (c : Ce) (a s : Int32) : Int32 := foldTo (lcF c a s) (-1) 32
def f_lastChild (a s : Int32) (M : Mm) : Option Rs := some (.inl (some (.int (lcC (M.1 0) a s)), M))
theorem p_lastChild (ad : Nat → Nat) (x0 x1 : Int32) (M : Mm) (r : Rs) (h : f_lastChild x0 x1 M = some r) : T_X1_lastChild_0 ad r (sp_II f_parentOf) (sp_III f_isBefore) [some (.ref (ad 1)), some (.int x0), some (.int x1), none, none] [] M := by
  cases h
  simp only [T_X1_lastChild_0, tt_c, tt_lc, tt_il, tt_ll, tt_al, tt_is, tt_lsv, tt_as, tt_inc, tt_add, tt_sub, tt_mul, tt_and, tt_ladd, tt_lmul, tt_i2l, tt_lcmp, tt_dupr, tt_dup2, tt_eq0, tt_lt0, tt_le0, tt_ge0, tt_gt0, tt_eq2, tt_lt2, tt_ge2, tt_gt2, tt_le2, tt_gr, tt_gi, tt_pi, tt_gl, tt_pl, tt_ia, tt_st, tt_ir, tt_zr, tt_lr, tt_vr, tt_cv, tt_cs, tt_max, tt_min, tt_rem, tt_xor, tt_len, tt_cp, tt_thr, tt_xv, tt_xs, k_sv, k_cl, k_kz, List.getElem?_cons_zero, List.getElem?_cons_succ, List.drop_succ_cons, List.drop_zero, List.take_succ_cons, List.take_zero, List.reverse_cons, List.reverse_nil, List.nil_append, List.cons_append, List.length_cons, List.length_nil, Option.toList_some, Option.toList_none, Nat.reduceAdd, Nat.reduceLeDiff, true_and, and_true, sp_I, sp_II, sp_III, sp_JI, sp_JJ, sp_R2, sp_R5I, sp_V]
  refine lp_of (σ := Nat) (fun j => j ≤ 32) (fun j => [some (.ref (ad 1)), some (.int x0), some (.int x1), some (.int (foldTo (lcF (M.1 0) x0 x1) (-1) j)), some (.int (nI j))]) (fun _ => M) (fun j => 32 - j) ?_ 0 (by omega)
  intro k j hj hk
  simp only [T_X1_lastChild_45, T_X1_lastChild_42, T_X1_lastChild_5, T_X1_lastChild_0, tt_c, tt_lc, tt_il, tt_ll, tt_al, tt_is, tt_lsv, tt_as, tt_inc, tt_add, tt_sub, tt_mul, tt_and, tt_ladd, tt_lmul, tt_i2l, tt_lcmp, tt_dupr, tt_dup2, tt_eq0, tt_lt0, tt_le0, tt_ge0, tt_gt0, tt_eq2, tt_lt2, tt_ge2, tt_gt2, tt_le2, tt_gr, tt_gi, tt_pi, tt_gl, tt_pl, tt_ia, tt_st, tt_ir, tt_zr, tt_lr, tt_vr, tt_cv, tt_cs, tt_max, tt_min, tt_rem, tt_xor, tt_len, tt_cp, tt_thr, tt_xv, tt_xs, k_sv, k_cl, k_kz, List.getElem?_cons_zero, List.getElem?_cons_succ, List.drop_succ_cons, List.drop_zero, List.take_succ_cons, List.take_zero, List.reverse_cons, List.reverse_nil, List.nil_append, List.cons_append, List.length_cons, List.length_nil, Option.toList_some, Option.toList_none, Nat.reduceAdd, Nat.reduceLeDiff, true_and, and_true, sp_I, sp_II, sp_III, sp_JI, sp_JJ, sp_R2, sp_R5I, sp_V, f_parentOf, f_isBefore, ge32 hj, bI_0]
  refine ⟨fun c1 => ?_, fun c1 => ?_⟩
  · subst c1
    rfl
  · have hk1 := hk (j + 1) (by omega) (by omega)
    simp only [foldTo, nI_succ] at hk1
    generalize foldTo (lcF (M.1 0) x0 x1) (-1) j = l at hk1 ⊢
    simp only [lcF] at hk1
    refine ⟨fun c2 => ⟨fun c3 => ?_, fun c3 => ⟨fun c4 => ?_, fun c4 => ?_⟩⟩, fun c2 => ?_⟩ <;> simpa [*] using hk1
def fiF (c : Ce) (a s : Int32) (x : Nat) (l : Int32) : Int32 := if pC c (nI x) s = a then (if cbC c (nI x) s = false then l else if l = -1 then nI x else if beC c (nI x) l s = true then nI x else l) else l
def fiC (c : Ce) (a s : Int32) : Int32 := foldTo (fiF c a s) (-1) 32
def f_firstInnerChild (a s : Int32) (M : Mm) : Option Rs := some (.inl (some (.int (fiC (M.1 0) a s)), M))
theorem p_firstInnerChild (ad : Nat → Nat) (x0 x1 : Int32) (M : Mm) (r : Rs) (h : f_firstInnerChild x0 x1 M = some r) : T_X1_firstInnerChild_0 ad r (sp_II f_parentOf) (sp_II f_canBeInner) (sp_III f_isBefore) [some (.ref (ad 1)), some (.int x0), some (.int x1), none, none] [] M := by
  cases h
  simp only [T_X1_firstInnerChild_0, tt_c, tt_lc, tt_il, tt_ll, tt_al, tt_is, tt_lsv, tt_as, tt_inc, tt_add, tt_sub, tt_mul, tt_and, tt_ladd, tt_lmul, tt_i2l, tt_lcmp, tt_dupr, tt_dup2, tt_eq0, tt_lt0, tt_le0, tt_ge0, tt_gt0, tt_eq2, tt_lt2, tt_ge2, tt_gt2, tt_le2, tt_gr, tt_gi, tt_pi, tt_gl, tt_pl, tt_ia, tt_st, tt_ir, tt_zr, tt_lr, tt_vr, tt_cv, tt_cs, tt_max, tt_min, tt_rem, tt_xor, tt_len, tt_cp, tt_thr, tt_xv, tt_xs, k_sv, k_cl, k_kz, List.getElem?_cons_zero, List.getElem?_cons_succ, List.drop_succ_cons, List.drop_zero, List.take_succ_cons, List.take_zero, List.reverse_cons, List.reverse_nil, List.nil_append, List.cons_append, List.length_cons, List.length_nil, Option.toList_some, Option.toList_none, Nat.reduceAdd, Nat.reduceLeDiff, true_and, and_true, sp_I, sp_II, sp_III, sp_JI, sp_JJ, sp_R2, sp_R5I, sp_V]
  refine lp_of (σ := Nat) (fun j => j ≤ 32) (fun j => [some (.ref (ad 1)), some (.int x0), some (.int x1), some (.int (foldTo (fiF (M.1 0) x0 x1) (-1) j)), some (.int (nI j))]) (fun _ => M) (fun j => 32 - j) ?_ 0 (by omega)
  intro k j hj hk
  simp only [T_X1_firstInnerChild_55, T_X1_firstInnerChild_52, T_X1_firstInnerChild_5, T_X1_firstInnerChild_0, tt_c, tt_lc, tt_il, tt_ll, tt_al, tt_is, tt_lsv, tt_as, tt_inc, tt_add, tt_sub, tt_mul, tt_and, tt_ladd, tt_lmul, tt_i2l, tt_lcmp, tt_dupr, tt_dup2, tt_eq0, tt_lt0, tt_le0, tt_ge0, tt_gt0, tt_eq2, tt_lt2, tt_ge2, tt_gt2, tt_le2, tt_gr, tt_gi, tt_pi, tt_gl, tt_pl, tt_ia, tt_st, tt_ir, tt_zr, tt_lr, tt_vr, tt_cv, tt_cs, tt_max, tt_min, tt_rem, tt_xor, tt_len, tt_cp, tt_thr, tt_xv, tt_xs, k_sv, k_cl, k_kz, List.getElem?_cons_zero, List.getElem?_cons_succ, List.drop_succ_cons, List.drop_zero, List.take_succ_cons, List.take_zero, List.reverse_cons, List.reverse_nil, List.nil_append, List.cons_append, List.length_cons, List.length_nil, Option.toList_some, Option.toList_none, Nat.reduceAdd, Nat.reduceLeDiff, true_and, and_true, sp_I, sp_II, sp_III, sp_JI, sp_JJ, sp_R2, sp_R5I, sp_V, f_parentOf, f_isBefore, f_canBeInner, ge32 hj, bI_0]
  refine ⟨fun c1 => ?_, fun c1 => ?_⟩
  · subst c1
    rfl
  · have hk1 := hk (j + 1) (by omega) (by omega)
    simp only [foldTo, nI_succ] at hk1
    generalize foldTo (fiF (M.1 0) x0 x1) (-1) j = l at hk1 ⊢
    simp only [fiF] at hk1
    refine ⟨fun c2 => ⟨fun c3 => ?_, fun c3 => ⟨fun c4 => ?_, fun c4 => ⟨fun c5 => ?_, fun c5 => ?_⟩⟩⟩, fun c2 => ?_⟩ <;> simpa [*] using hk1
/-- the member with room of the least depth: (it, its depth, whatever local 5 holds) -/
def smF (c : Ce) (s : Int32) (x : Nat) (q : Int32 × Int32) : Int32 × Int32 := if rmC c (nI x) s = false then q else if q.1 = -1 then (nI x, dC c (nI x) s) else if q.2 ≤ dC c (nI x) s then q else (nI x, dC c (nI x) s)
def fold2 {σ : Type} (g : Nat → σ → σ) (a : σ) : Nat → σ
  | 0 => a
  | n + 1 => g n (fold2 g a n)
def smC (c : Ce) (s : Int32) : Int32 := (fold2 (smF c s) (-1, -1) 32).1
def f_spareMember (s : Int32) (M : Mm) : Option Rs := some (.inl (some (.int (smC (M.1 0) s)), M))
theorem p_spareMember (ad : Nat → Nat) (x0 : Int32) (M : Mm) (r : Rs) (h : f_spareMember x0 M = some r) : T_X1_spareMember_0 ad r (sp_II f_depthOf) (sp_II f_isRoomAt) [some (.ref (ad 1)), some (.int x0), none, none, none, none] [] M := by
  cases h
  simp only [T_X1_spareMember_0, tt_c, tt_lc, tt_il, tt_ll, tt_al, tt_is, tt_lsv, tt_as, tt_inc, tt_add, tt_sub, tt_mul, tt_and, tt_ladd, tt_lmul, tt_i2l, tt_lcmp, tt_dupr, tt_dup2, tt_eq0, tt_lt0, tt_le0, tt_ge0, tt_gt0, tt_eq2, tt_lt2, tt_ge2, tt_gt2, tt_le2, tt_gr, tt_gi, tt_pi, tt_gl, tt_pl, tt_ia, tt_st, tt_ir, tt_zr, tt_lr, tt_vr, tt_cv, tt_cs, tt_max, tt_min, tt_rem, tt_xor, tt_len, tt_cp, tt_thr, tt_xv, tt_xs, k_sv, k_cl, k_kz, List.getElem?_cons_zero, List.getElem?_cons_succ, List.drop_succ_cons, List.drop_zero, List.take_succ_cons, List.take_zero, List.reverse_cons, List.reverse_nil, List.nil_append, List.cons_append, List.length_cons, List.length_nil, Option.toList_some, Option.toList_none, Nat.reduceAdd, Nat.reduceLeDiff, true_and, and_true, sp_I, sp_II, sp_III, sp_JI, sp_JJ, sp_R2, sp_R5I, sp_V]
  refine lp_of (σ := Nat × Option Value) (fun j => j.1 ≤ 32) (fun j => [some (.ref (ad 1)), some (.int x0), some (.int (fold2 (smF (M.1 0) x0) (-1, -1) j.1).1), some (.int (fold2 (smF (M.1 0) x0) (-1, -1) j.1).2), some (.int (nI j.1)), j.2]) (fun _ => M) (fun j => 32 - j.1) ?_ (0, none) (by show 0 ≤ 32; omega)
  rintro k ⟨j, o⟩ hj hk
  dsimp only at hj
  simp only [T_X1_spareMember_50, T_X1_spareMember_44, T_X1_spareMember_7, T_X1_spareMember_0, tt_c, tt_lc, tt_il, tt_ll, tt_al, tt_is, tt_lsv, tt_as, tt_inc, tt_add, tt_sub, tt_mul, tt_and, tt_ladd, tt_lmul, tt_i2l, tt_lcmp, tt_dupr, tt_dup2, tt_eq0, tt_lt0, tt_le0, tt_ge0, tt_gt0, tt_eq2, tt_lt2, tt_ge2, tt_gt2, tt_le2, tt_gr, tt_gi, tt_pi, tt_gl, tt_pl, tt_ia, tt_st, tt_ir, tt_zr, tt_lr, tt_vr, tt_cv, tt_cs, tt_max, tt_min, tt_rem, tt_xor, tt_len, tt_cp, tt_thr, tt_xv, tt_xs, k_sv, k_cl, k_kz, List.getElem?_cons_zero, List.getElem?_cons_succ, List.drop_succ_cons, List.drop_zero, List.take_succ_cons, List.take_zero, List.reverse_cons, List.reverse_nil, List.nil_append, List.cons_append, List.length_cons, List.length_nil, Option.toList_some, Option.toList_none, Nat.reduceAdd, Nat.reduceLeDiff, true_and, and_true, sp_I, sp_II, sp_III, sp_JI, sp_JJ, sp_R2, sp_R5I, sp_V, f_depthOf, f_isRoomAt, ge32 hj, bI_0]
  refine ⟨fun c1 => ?_, fun c1 => ?_⟩
  · subst c1
    rfl
  · have hk0 := hk (j + 1, o) (by show j + 1 ≤ 32; omega) (by show 32 - (j + 1) < 32 - j; omega)
    have hk1 := hk (j + 1, some (.int (dC (M.1 0) (nI j) x0))) (by show j + 1 ≤ 32; omega) (by show 32 - (j + 1) < 32 - j; omega)
    simp only [fold2, nI_succ] at hk0 hk1
    generalize fold2 (smF (M.1 0) x0) (-1, -1) j = l at hk0 hk1 ⊢
    obtain ⟨l1, l2⟩ := l
    simp only [smF] at hk0 hk1
    dsimp only
    refine ⟨fun c2 => ?_, fun c2 => ⟨fun c3 => ?_, fun c3 => ⟨fun c4 => ?_, fun c4 => ?_⟩⟩⟩
    · simpa [*] using hk0
    · simpa [*] using hk1
    · simpa [*] using hk1
    · simpa [*] using hk1
def orC (c : Ce) (x s : Int32) : Bool := decide (vC c x 0 = 1) && decide (pC c x s = -1)
def f_isOrphan (x s : Int32) (M : Mm) : Option Rs := some (.inl (some (.int (bI (orC (M.1 0) x s))), M))
theorem p_isOrphan (ad : Nat → Nat) (x0 x1 : Int32) (M : Mm) (r : Rs) (h : f_isOrphan x0 x1 M = some r) : T_X1_isOrphan_0 ad r (sp_II f_parentOf) (sp_II f_value) [some (.ref (ad 1)), some (.int x0), some (.int x1)] [] M := by
  cases h
  simp only [T_X1_isOrphan_31, T_X1_isOrphan_30, T_X1_isOrphan_0, tt_c, tt_lc, tt_il, tt_ll, tt_al, tt_is, tt_lsv, tt_as, tt_inc, tt_add, tt_sub, tt_mul, tt_and, tt_ladd, tt_lmul, tt_i2l, tt_lcmp, tt_dupr, tt_dup2, tt_eq0, tt_lt0, tt_le0, tt_ge0, tt_gt0, tt_eq2, tt_lt2, tt_ge2, tt_gt2, tt_le2, tt_gr, tt_gi, tt_pi, tt_gl, tt_pl, tt_ia, tt_st, tt_ir, tt_zr, tt_lr, tt_vr, tt_cv, tt_cs, tt_max, tt_min, tt_rem, tt_xor, tt_len, tt_cp, tt_thr, tt_xv, tt_xs, k_sv, k_cl, k_kz, List.getElem?_cons_zero, List.getElem?_cons_succ, List.drop_succ_cons, List.drop_zero, List.take_succ_cons, List.take_zero, List.reverse_cons, List.reverse_nil, List.nil_append, List.cons_append, List.length_cons, List.length_nil, Option.toList_some, Option.toList_none, Nat.reduceAdd, Nat.reduceLeDiff, true_and, and_true, sp_I, sp_II, sp_III, sp_JI, sp_JJ, sp_R2, sp_R5I, sp_V, f_value, f_parentOf]
  refine ⟨fun c1 => ⟨fun c2 => ?_, fun c2 => ?_⟩, fun c1 => ?_⟩ <;> simp [orC, bI, *]
def cnC (c : Ce) (s : Int32) : Int32 := sumTo (fun x => if dC c (nI x) s = -1 then 0 else 1) 32
def f_connected (s : Int32) (M : Mm) : Option Rs := some (.inl (some (.int (cnC (M.1 0) s)), M))
theorem p_connected (ad : Nat → Nat) (x0 : Int32) (M : Mm) (r : Rs) (h : f_connected x0 M = some r) : T_X1_connected_0 ad r (sp_II f_depthOf) [some (.ref (ad 1)), some (.int x0), none, none] [] M := by
  cases h
  simp only [T_X1_connected_0, tt_c, tt_lc, tt_il, tt_ll, tt_al, tt_is, tt_lsv, tt_as, tt_inc, tt_add, tt_sub, tt_mul, tt_and, tt_ladd, tt_lmul, tt_i2l, tt_lcmp, tt_dupr, tt_dup2, tt_eq0, tt_lt0, tt_le0, tt_ge0, tt_gt0, tt_eq2, tt_lt2, tt_ge2, tt_gt2, tt_le2, tt_gr, tt_gi, tt_pi, tt_gl, tt_pl, tt_ia, tt_st, tt_ir, tt_zr, tt_lr, tt_vr, tt_cv, tt_cs, tt_max, tt_min, tt_rem, tt_xor, tt_len, tt_cp, tt_thr, tt_xv, tt_xs, k_sv, k_cl, k_kz, List.getElem?_cons_zero, List.getElem?_cons_succ, List.drop_succ_cons, List.drop_zero, List.take_succ_cons, List.take_zero, List.reverse_cons, List.reverse_nil, List.nil_append, List.cons_append, List.length_cons, List.length_nil, Option.toList_some, Option.toList_none, Nat.reduceAdd, Nat.reduceLeDiff, true_and, and_true, sp_I, sp_II, sp_III, sp_JI, sp_JJ, sp_R2, sp_R5I, sp_V]
  refine lp_of (σ := Nat) (fun j => j ≤ 32) (fun j => [some (.ref (ad 1)), some (.int x0), some (.int (sumTo (fun x => if dC (M.1 0) (nI x) x0 = -1 then 0 else 1) j)), some (.int (nI j))]) (fun _ => M) (fun j => 32 - j) ?_ 0 (by omega)
  intro k j hj hk
  simp only [T_X1_connected_23, T_X1_connected_4, T_X1_connected_0, tt_c, tt_lc, tt_il, tt_ll, tt_al, tt_is, tt_lsv, tt_as, tt_inc, tt_add, tt_sub, tt_mul, tt_and, tt_ladd, tt_lmul, tt_i2l, tt_lcmp, tt_dupr, tt_dup2, tt_eq0, tt_lt0, tt_le0, tt_ge0, tt_gt0, tt_eq2, tt_lt2, tt_ge2, tt_gt2, tt_le2, tt_gr, tt_gi, tt_pi, tt_gl, tt_pl, tt_ia, tt_st, tt_ir, tt_zr, tt_lr, tt_vr, tt_cv, tt_cs, tt_max, tt_min, tt_rem, tt_xor, tt_len, tt_cp, tt_thr, tt_xv, tt_xs, k_sv, k_cl, k_kz, List.getElem?_cons_zero, List.getElem?_cons_succ, List.drop_succ_cons, List.drop_zero, List.take_succ_cons, List.take_zero, List.reverse_cons, List.reverse_nil, List.nil_append, List.cons_append, List.length_cons, List.length_nil, Option.toList_some, Option.toList_none, Nat.reduceAdd, Nat.reduceLeDiff, true_and, and_true, sp_I, sp_II, sp_III, sp_JI, sp_JJ, sp_R2, sp_R5I, sp_V, f_depthOf, ge32 hj]
  refine ⟨fun c1 => ?_, fun c1 => ⟨fun c2 => ?_, fun c2 => ?_⟩⟩
  · subst c1
    rfl
  all_goals simpa [sumTo, nI_succ, c2] using hk (j + 1) (by omega) (by omega)
def oC (c : Ce) (s : Int32) : Int32 := sumTo (fun x => bI (orC c (nI x) s)) 32
def f_orphans (s : Int32) (M : Mm) : Option Rs := some (.inl (some (.int (oC (M.1 0) s)), M))
theorem p_orphans (ad : Nat → Nat) (x0 : Int32) (M : Mm) (r : Rs) (h : f_orphans x0 M = some r) : T_X1_orphans_0 ad r (sp_II f_isOrphan) [some (.ref (ad 1)), some (.int x0), none, none] [] M := by
  cases h
  simp only [T_X1_orphans_0, tt_c, tt_lc, tt_il, tt_ll, tt_al, tt_is, tt_lsv, tt_as, tt_inc, tt_add, tt_sub, tt_mul, tt_and, tt_ladd, tt_lmul, tt_i2l, tt_lcmp, tt_dupr, tt_dup2, tt_eq0, tt_lt0, tt_le0, tt_ge0, tt_gt0, tt_eq2, tt_lt2, tt_ge2, tt_gt2, tt_le2, tt_gr, tt_gi, tt_pi, tt_gl, tt_pl, tt_ia, tt_st, tt_ir, tt_zr, tt_lr, tt_vr, tt_cv, tt_cs, tt_max, tt_min, tt_rem, tt_xor, tt_len, tt_cp, tt_thr, tt_xv, tt_xs, k_sv, k_cl, k_kz, List.getElem?_cons_zero, List.getElem?_cons_succ, List.drop_succ_cons, List.drop_zero, List.take_succ_cons, List.take_zero, List.reverse_cons, List.reverse_nil, List.nil_append, List.cons_append, List.length_cons, List.length_nil, Option.toList_some, Option.toList_none, Nat.reduceAdd, Nat.reduceLeDiff, true_and, and_true, sp_I, sp_II, sp_III, sp_JI, sp_JJ, sp_R2, sp_R5I, sp_V]
  refine lp_of (σ := Nat) (fun j => j ≤ 32) (fun j => [some (.ref (ad 1)), some (.int x0), some (.int (sumTo (fun x => bI (orC (M.1 0) (nI x) x0)) j)), some (.int (nI j))]) (fun _ => M) (fun j => 32 - j) ?_ 0 (by omega)
  intro k j hj hk
  simp only [T_X1_orphans_22, T_X1_orphans_4, T_X1_orphans_0, tt_c, tt_lc, tt_il, tt_ll, tt_al, tt_is, tt_lsv, tt_as, tt_inc, tt_add, tt_sub, tt_mul, tt_and, tt_ladd, tt_lmul, tt_i2l, tt_lcmp, tt_dupr, tt_dup2, tt_eq0, tt_lt0, tt_le0, tt_ge0, tt_gt0, tt_eq2, tt_lt2, tt_ge2, tt_gt2, tt_le2, tt_gr, tt_gi, tt_pi, tt_gl, tt_pl, tt_ia, tt_st, tt_ir, tt_zr, tt_lr, tt_vr, tt_cv, tt_cs, tt_max, tt_min, tt_rem, tt_xor, tt_len, tt_cp, tt_thr, tt_xv, tt_xs, k_sv, k_cl, k_kz, List.getElem?_cons_zero, List.getElem?_cons_succ, List.drop_succ_cons, List.drop_zero, List.take_succ_cons, List.take_zero, List.reverse_cons, List.reverse_nil, List.nil_append, List.cons_append, List.length_cons, List.length_nil, Option.toList_some, Option.toList_none, Nat.reduceAdd, Nat.reduceLeDiff, true_and, and_true, sp_I, sp_II, sp_III, sp_JI, sp_JJ, sp_R2, sp_R5I, sp_V, f_isOrphan, ge32 hj, bI_0]
  refine ⟨fun c1 => ?_, fun c1 => ⟨fun c2 => ?_, fun c2 => ?_⟩⟩
  · subst c1
    rfl
  · simpa [sumTo, nI_succ, c2, bI_t, bI_f] using hk (j + 1) (by omega) (by omega)
  · simp only [Bool.not_eq_false] at c2
    simpa [sumTo, nI_succ, c2, bI_t, bI_f] using hk (j + 1) (by omega) (by omega)
def wrC (c : Ce) (s : Int32) : Int32 := sumTo (fun x => bI (rmC c (nI x) s)) 32
def f_withRoom (s : Int32) (M : Mm) : Option Rs := some (.inl (some (.int (wrC (M.1 0) s)), M))
theorem p_withRoom (ad : Nat → Nat) (x0 : Int32) (M : Mm) (r : Rs) (h : f_withRoom x0 M = some r) : T_X1_withRoom_0 ad r (sp_II f_isRoomAt) [some (.ref (ad 1)), some (.int x0), none, none] [] M := by
  cases h
  simp only [T_X1_withRoom_0, tt_c, tt_lc, tt_il, tt_ll, tt_al, tt_is, tt_lsv, tt_as, tt_inc, tt_add, tt_sub, tt_mul, tt_and, tt_ladd, tt_lmul, tt_i2l, tt_lcmp, tt_dupr, tt_dup2, tt_eq0, tt_lt0, tt_le0, tt_ge0, tt_gt0, tt_eq2, tt_lt2, tt_ge2, tt_gt2, tt_le2, tt_gr, tt_gi, tt_pi, tt_gl, tt_pl, tt_ia, tt_st, tt_ir, tt_zr, tt_lr, tt_vr, tt_cv, tt_cs, tt_max, tt_min, tt_rem, tt_xor, tt_len, tt_cp, tt_thr, tt_xv, tt_xs, k_sv, k_cl, k_kz, List.getElem?_cons_zero, List.getElem?_cons_succ, List.drop_succ_cons, List.drop_zero, List.take_succ_cons, List.take_zero, List.reverse_cons, List.reverse_nil, List.nil_append, List.cons_append, List.length_cons, List.length_nil, Option.toList_some, Option.toList_none, Nat.reduceAdd, Nat.reduceLeDiff, true_and, and_true, sp_I, sp_II, sp_III, sp_JI, sp_JJ, sp_R2, sp_R5I, sp_V]
  refine lp_of (σ := Nat) (fun j => j ≤ 32) (fun j => [some (.ref (ad 1)), some (.int x0), some (.int (sumTo (fun x => bI (rmC (M.1 0) (nI x) x0)) j)), some (.int (nI j))]) (fun _ => M) (fun j => 32 - j) ?_ 0 (by omega)
  intro k j hj hk
  simp only [T_X1_withRoom_22, T_X1_withRoom_4, T_X1_withRoom_0, tt_c, tt_lc, tt_il, tt_ll, tt_al, tt_is, tt_lsv, tt_as, tt_inc, tt_add, tt_sub, tt_mul, tt_and, tt_ladd, tt_lmul, tt_i2l, tt_lcmp, tt_dupr, tt_dup2, tt_eq0, tt_lt0, tt_le0, tt_ge0, tt_gt0, tt_eq2, tt_lt2, tt_ge2, tt_gt2, tt_le2, tt_gr, tt_gi, tt_pi, tt_gl, tt_pl, tt_ia, tt_st, tt_ir, tt_zr, tt_lr, tt_vr, tt_cv, tt_cs, tt_max, tt_min, tt_rem, tt_xor, tt_len, tt_cp, tt_thr, tt_xv, tt_xs, k_sv, k_cl, k_kz, List.getElem?_cons_zero, List.getElem?_cons_succ, List.drop_succ_cons, List.drop_zero, List.take_succ_cons, List.take_zero, List.reverse_cons, List.reverse_nil, List.nil_append, List.cons_append, List.length_cons, List.length_nil, Option.toList_some, Option.toList_none, Nat.reduceAdd, Nat.reduceLeDiff, true_and, and_true, sp_I, sp_II, sp_III, sp_JI, sp_JJ, sp_R2, sp_R5I, sp_V, f_isRoomAt, ge32 hj, bI_0]
  refine ⟨fun c1 => ?_, fun c1 => ⟨fun c2 => ?_, fun c2 => ?_⟩⟩
  · subst c1
    rfl
  · simpa [sumTo, nI_succ, c2, bI_t, bI_f] using hk (j + 1) (by omega) (by omega)
  · simp only [Bool.not_eq_false] at c2
    simpa [sumTo, nI_succ, c2, bI_t, bI_f] using hk (j + 1) (by omega) (by omega)
def gdF (c : Ce) (s : Int32) (x : Nat) (l : Int32) : Int32 := if l < dC c (nI x) s then dC c (nI x) s else l
def gdC (c : Ce) (s : Int32) : Int32 := foldTo (gdF c s) 0 32
def f_greatestDepth (s : Int32) (M : Mm) : Option Rs := some (.inl (some (.int (gdC (M.1 0) s)), M))
theorem p_greatestDepth (ad : Nat → Nat) (x0 : Int32) (M : Mm) (r : Rs) (h : f_greatestDepth x0 M = some r) : T_X1_greatestDepth_0 ad r (sp_II f_depthOf) [some (.ref (ad 1)), some (.int x0), none, none] [] M := by
  cases h
  simp only [T_X1_greatestDepth_0, tt_c, tt_lc, tt_il, tt_ll, tt_al, tt_is, tt_lsv, tt_as, tt_inc, tt_add, tt_sub, tt_mul, tt_and, tt_ladd, tt_lmul, tt_i2l, tt_lcmp, tt_dupr, tt_dup2, tt_eq0, tt_lt0, tt_le0, tt_ge0, tt_gt0, tt_eq2, tt_lt2, tt_ge2, tt_gt2, tt_le2, tt_gr, tt_gi, tt_pi, tt_gl, tt_pl, tt_ia, tt_st, tt_ir, tt_zr, tt_lr, tt_vr, tt_cv, tt_cs, tt_max, tt_min, tt_rem, tt_xor, tt_len, tt_cp, tt_thr, tt_xv, tt_xs, k_sv, k_cl, k_kz, List.getElem?_cons_zero, List.getElem?_cons_succ, List.drop_succ_cons, List.drop_zero, List.take_succ_cons, List.take_zero, List.reverse_cons, List.reverse_nil, List.nil_append, List.cons_append, List.length_cons, List.length_nil, Option.toList_some, Option.toList_none, Nat.reduceAdd, Nat.reduceLeDiff, true_and, and_true, sp_I, sp_II, sp_III, sp_JI, sp_JJ, sp_R2, sp_R5I, sp_V]
  refine lp_of (σ := Nat) (fun j => j ≤ 32) (fun j => [some (.ref (ad 1)), some (.int x0), some (.int (foldTo (gdF (M.1 0) x0) 0 j)), some (.int (nI j))]) (fun _ => M) (fun j => 32 - j) ?_ 0 (by omega)
  intro k j hj hk
  simp only [T_X1_greatestDepth_4, T_X1_greatestDepth_0, tt_c, tt_lc, tt_il, tt_ll, tt_al, tt_is, tt_lsv, tt_as, tt_inc, tt_add, tt_sub, tt_mul, tt_and, tt_ladd, tt_lmul, tt_i2l, tt_lcmp, tt_dupr, tt_dup2, tt_eq0, tt_lt0, tt_le0, tt_ge0, tt_gt0, tt_eq2, tt_lt2, tt_ge2, tt_gt2, tt_le2, tt_gr, tt_gi, tt_pi, tt_gl, tt_pl, tt_ia, tt_st, tt_ir, tt_zr, tt_lr, tt_vr, tt_cv, tt_cs, tt_max, tt_min, tt_rem, tt_xor, tt_len, tt_cp, tt_thr, tt_xv, tt_xs, k_sv, k_cl, k_kz, List.getElem?_cons_zero, List.getElem?_cons_succ, List.drop_succ_cons, List.drop_zero, List.take_succ_cons, List.take_zero, List.reverse_cons, List.reverse_nil, List.nil_append, List.cons_append, List.length_cons, List.length_nil, Option.toList_some, Option.toList_none, Nat.reduceAdd, Nat.reduceLeDiff, true_and, and_true, sp_I, sp_II, sp_III, sp_JI, sp_JJ, sp_R2, sp_R5I, sp_V, f_depthOf, ge32 hj]
  refine ⟨fun c1 => ?_, fun c1 => ?_⟩
  · subst c1
    rfl
  · have hk1 := hk (j + 1) (by omega) (by omega)
    simp only [foldTo, nI_succ] at hk1
    generalize foldTo (gdF (M.1 0) x0) 0 j = l at hk1 ⊢
    simpa [gdF] using hk1
def wcC (c : Ce) (s : Int32) : Int32 := sumTo (fun x => if vC c (nI x) 5 ≤ 0 then 0 else if vC c (nI x) 6 = s then 1 else 0) 32
def f_withChildren (s : Int32) (M : Mm) : Option Rs := some (.inl (some (.int (wcC (M.1 0) s)), M))
theorem p_withChildren (ad : Nat → Nat) (x0 : Int32) (M : Mm) (r : Rs) (h : f_withChildren x0 M = some r) : T_X1_withChildren_0 ad r (sp_II f_value) [some (.ref (ad 1)), some (.int x0), none, none] [] M := by
  cases h
  simp only [T_X1_withChildren_0, tt_c, tt_lc, tt_il, tt_ll, tt_al, tt_is, tt_lsv, tt_as, tt_inc, tt_add, tt_sub, tt_mul, tt_and, tt_ladd, tt_lmul, tt_i2l, tt_lcmp, tt_dupr, tt_dup2, tt_eq0, tt_lt0, tt_le0, tt_ge0, tt_gt0, tt_eq2, tt_lt2, tt_ge2, tt_gt2, tt_le2, tt_gr, tt_gi, tt_pi, tt_gl, tt_pl, tt_ia, tt_st, tt_ir, tt_zr, tt_lr, tt_vr, tt_cv, tt_cs, tt_max, tt_min, tt_rem, tt_xor, tt_len, tt_cp, tt_thr, tt_xv, tt_xs, k_sv, k_cl, k_kz, List.getElem?_cons_zero, List.getElem?_cons_succ, List.drop_succ_cons, List.drop_zero, List.take_succ_cons, List.take_zero, List.reverse_cons, List.reverse_nil, List.nil_append, List.cons_append, List.length_cons, List.length_nil, Option.toList_some, Option.toList_none, Nat.reduceAdd, Nat.reduceLeDiff, true_and, and_true, sp_I, sp_II, sp_III, sp_JI, sp_JJ, sp_R2, sp_R5I, sp_V]
  refine lp_of (σ := Nat) (fun j => j ≤ 32) (fun j => [some (.ref (ad 1)), some (.int x0), some (.int (sumTo (fun x => if vC (M.1 0) (nI x) 5 ≤ 0 then 0 else if vC (M.1 0) (nI x) 6 = x0 then 1 else 0) j)), some (.int (nI j))]) (fun _ => M) (fun j => 32 - j) ?_ 0 (by omega)
  intro k j hj hk
  simp only [T_X1_withChildren_39, T_X1_withChildren_4, T_X1_withChildren_0, tt_c, tt_lc, tt_il, tt_ll, tt_al, tt_is, tt_lsv, tt_as, tt_inc, tt_add, tt_sub, tt_mul, tt_and, tt_ladd, tt_lmul, tt_i2l, tt_lcmp, tt_dupr, tt_dup2, tt_eq0, tt_lt0, tt_le0, tt_ge0, tt_gt0, tt_eq2, tt_lt2, tt_ge2, tt_gt2, tt_le2, tt_gr, tt_gi, tt_pi, tt_gl, tt_pl, tt_ia, tt_st, tt_ir, tt_zr, tt_lr, tt_vr, tt_cv, tt_cs, tt_max, tt_min, tt_rem, tt_xor, tt_len, tt_cp, tt_thr, tt_xv, tt_xs, k_sv, k_cl, k_kz, List.getElem?_cons_zero, List.getElem?_cons_succ, List.drop_succ_cons, List.drop_zero, List.take_succ_cons, List.take_zero, List.reverse_cons, List.reverse_nil, List.nil_append, List.cons_append, List.length_cons, List.length_nil, Option.toList_some, Option.toList_none, Nat.reduceAdd, Nat.reduceLeDiff, true_and, and_true, sp_I, sp_II, sp_III, sp_JI, sp_JJ, sp_R2, sp_R5I, sp_V, f_value, ge32 hj]
  refine ⟨fun c1 => ?_, fun c1 => ⟨fun c2 => ?_, fun c2 => ⟨fun c3 => ?_, fun c3 => ?_⟩⟩⟩
  · subst c1
    rfl
  all_goals simpa [sumTo, nI_succ, *] using hk (j + 1) (by omega) (by omega)
