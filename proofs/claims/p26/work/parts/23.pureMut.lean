/-! what the class's writers do to its cells -/
theorem fold2_0 {σ : Type} (g : Nat → σ → σ) (a : σ) : fold2 g a 0 = a := by rw [fold2]
theorem k_eqM {T : Tr} {L : Ls} {st : List Value} {M M1 : Mm} (h : M1 = M) (z : T L st M1) : T L st M := h ▸ z
def svC (c : Ce) (x w v : Int32) : Ce := if x < 0 ∨ 32 ≤ x ∨ w < 0 ∨ ¬ w < 10 then c else upd c (w * 32 + x).toNatClampNeg v
def f_setValue (x w v : Int32) (M : Mm) : Option Rs := some (.inl (none, k_r0 M (svC (M.1 0) x w v)))
theorem p_setValue (ad : Nat → Nat) (x0 x1 x2 : Int32) (M : Mm) (r : Rs) (h : f_setValue x0 x1 x2 M = some r) : T_X0_setValue_0 ad r [some (.ref (ad 2)), some (.int x0), some (.int x1), some (.int x2)] [] M := by
  cases h
  simp only [T_X0_setValue_20, T_X0_setValue_0, tt_c, tt_lc, tt_il, tt_ll, tt_al, tt_is, tt_lsv, tt_as, tt_inc, tt_add, tt_sub, tt_mul, tt_and, tt_ladd, tt_lmul, tt_i2l, tt_lcmp, tt_dupr, tt_dup2, tt_eq0, tt_lt0, tt_le0, tt_ge0, tt_gt0, tt_eq2, tt_lt2, tt_ge2, tt_gt2, tt_le2, tt_gr, tt_gi, tt_pi, tt_gl, tt_pl, tt_ia, tt_st, tt_ir, tt_zr, tt_lr, tt_vr, tt_cv, tt_cs, tt_max, tt_min, tt_rem, tt_xor, tt_len, tt_cp, tt_thr, tt_xv, tt_xs, k_sv, k_cl, k_kz, List.getElem?_cons_zero, List.getElem?_cons_succ, List.drop_succ_cons, List.drop_zero, List.take_succ_cons, List.take_zero, List.reverse_cons, List.reverse_nil, List.nil_append, List.cons_append, List.length_cons, List.length_nil, Option.toList_some, Option.toList_none, Nat.reduceAdd, Nat.reduceLeDiff, true_and, and_true, sp_I, sp_II, sp_III, sp_JI, sp_JJ, sp_R2, sp_R5I, sp_V]
  refine ⟨fun c1 => ?_, fun c1 => ⟨fun c2 => ?_, fun c2 => ⟨fun c3 => ?_, fun c3 => ⟨fun c4 => ⟨k_vin c1 c2 c3 c4, ?_⟩, fun c4 => ?_⟩⟩⟩⟩ <;> simp [svC, k_r0_s, k_up0, *]
def f_addToValue (x w v : Int32) (M : Mm) : Option Rs := some (.inl (none, k_r0 M (svC (M.1 0) x w (vC (M.1 0) x w + v))))
theorem p_addToValue (ad : Nat → Nat) (x0 x1 x2 : Int32) (M : Mm) (r : Rs) (h : f_addToValue x0 x1 x2 M = some r) : T_X0_addToValue_0 ad r (sp_III f_setValue) (sp_II f_value) [some (.ref (ad 2)), some (.int x0), some (.int x1), some (.int x2)] [] M := by
  cases h
  simp only [T_X0_addToValue_0, tt_c, tt_lc, tt_il, tt_ll, tt_al, tt_is, tt_lsv, tt_as, tt_inc, tt_add, tt_sub, tt_mul, tt_and, tt_ladd, tt_lmul, tt_i2l, tt_lcmp, tt_dupr, tt_dup2, tt_eq0, tt_lt0, tt_le0, tt_ge0, tt_gt0, tt_eq2, tt_lt2, tt_ge2, tt_gt2, tt_le2, tt_gr, tt_gi, tt_pi, tt_gl, tt_pl, tt_ia, tt_st, tt_ir, tt_zr, tt_lr, tt_vr, tt_cv, tt_cs, tt_max, tt_min, tt_rem, tt_xor, tt_len, tt_cp, tt_thr, tt_xv, tt_xs, k_sv, k_cl, k_kz, List.getElem?_cons_zero, List.getElem?_cons_succ, List.drop_succ_cons, List.drop_zero, List.take_succ_cons, List.take_zero, List.reverse_cons, List.reverse_nil, List.nil_append, List.cons_append, List.length_cons, List.length_nil, Option.toList_some, Option.toList_none, Nat.reduceAdd, Nat.reduceLeDiff, true_and, and_true, sp_I, sp_II, sp_III, sp_JI, sp_JJ, sp_R2, sp_R5I, sp_V, f_value, f_setValue]
def acC (c : Ce) (p s more : Int32) : Ce := svC (svC c p 5 (vC c p 5 + more)) p 6 (if vC c p 5 + more = 0 then -1 else s)
def f_addChildren (p s more : Int32) (M : Mm) : Option Rs := some (.inl (none, k_r0 M (acC (M.1 0) p s more)))
theorem p_addChildren (ad : Nat → Nat) (x0 x1 x2 : Int32) (M : Mm) (r : Rs) (h : f_addChildren x0 x1 x2 M = some r) : T_X0_addChildren_0 ad r (sp_III f_setValue) (sp_II f_value) [some (.ref (ad 2)), some (.int x0), some (.int x1), some (.int x2), none] [] M := by
  cases h
  simp only [T_X0_addChildren_32, T_X0_addChildren_0, tt_c, tt_lc, tt_il, tt_ll, tt_al, tt_is, tt_lsv, tt_as, tt_inc, tt_add, tt_sub, tt_mul, tt_and, tt_ladd, tt_lmul, tt_i2l, tt_lcmp, tt_dupr, tt_dup2, tt_eq0, tt_lt0, tt_le0, tt_ge0, tt_gt0, tt_eq2, tt_lt2, tt_ge2, tt_gt2, tt_le2, tt_gr, tt_gi, tt_pi, tt_gl, tt_pl, tt_ia, tt_st, tt_ir, tt_zr, tt_lr, tt_vr, tt_cv, tt_cs, tt_max, tt_min, tt_rem, tt_xor, tt_len, tt_cp, tt_thr, tt_xv, tt_xs, k_sv, k_cl, k_kz, List.getElem?_cons_zero, List.getElem?_cons_succ, List.drop_succ_cons, List.drop_zero, List.take_succ_cons, List.take_zero, List.reverse_cons, List.reverse_nil, List.nil_append, List.cons_append, List.length_cons, List.length_nil, Option.toList_some, Option.toList_none, Nat.reduceAdd, Nat.reduceLeDiff, true_and, and_true, sp_I, sp_II, sp_III, sp_JI, sp_JJ, sp_R2, sp_R5I, sp_V, f_value, f_setValue, k_r0_0, k_r0_r]
  refine ⟨fun c1 => ?_, fun c1 => ?_⟩ <;> simp [acC, *]
def mvC (c : Ce) (x s p : Int32) : Ce := if x < 0 ∨ 32 ≤ x ∨ s < 0 ∨ ¬ s < 4 then c else acC (upd (acC c (c (320 + s * 32 + x).toNatClampNeg) s (-1)) (320 + s * 32 + x).toNatClampNeg p) p s 1
def f_moveTo (x s p : Int32) (M : Mm) : Option Rs := some (.inl (none, k_r0 M (mvC (M.1 0) x s p)))
theorem p_moveTo (ad : Nat → Nat) (x0 x1 x2 : Int32) (M : Mm) (r : Rs) (h : f_moveTo x0 x1 x2 M = some r) : T_X0_moveTo_0 ad r (sp_III f_addChildren) [some (.ref (ad 2)), some (.int x0), some (.int x1), some (.int x2), none] [] M := by
  cases h
  simp only [T_X0_moveTo_19, T_X0_moveTo_0, tt_c, tt_lc, tt_il, tt_ll, tt_al, tt_is, tt_lsv, tt_as, tt_inc, tt_add, tt_sub, tt_mul, tt_and, tt_ladd, tt_lmul, tt_i2l, tt_lcmp, tt_dupr, tt_dup2, tt_eq0, tt_lt0, tt_le0, tt_ge0, tt_gt0, tt_eq2, tt_lt2, tt_ge2, tt_gt2, tt_le2, tt_gr, tt_gi, tt_pi, tt_gl, tt_pl, tt_ia, tt_st, tt_ir, tt_zr, tt_lr, tt_vr, tt_cv, tt_cs, tt_max, tt_min, tt_rem, tt_xor, tt_len, tt_cp, tt_thr, tt_xv, tt_xs, k_sv, k_cl, k_kz, List.getElem?_cons_zero, List.getElem?_cons_succ, List.drop_succ_cons, List.drop_zero, List.take_succ_cons, List.take_zero, List.reverse_cons, List.reverse_nil, List.nil_append, List.cons_append, List.length_cons, List.length_nil, Option.toList_some, Option.toList_none, Nat.reduceAdd, Nat.reduceLeDiff, true_and, and_true, sp_I, sp_II, sp_III, sp_JI, sp_JJ, sp_R2, sp_R5I, sp_V, f_addChildren, k_up0, k_r0_0, k_r0_r]
  refine ⟨fun c1 => ?_, fun c1 => ⟨fun c2 => ?_, fun c2 => ⟨fun c3 => ?_, fun c3 => ⟨fun c4 => ⟨k_pin c1 c2 c3 c4, k_pin c1 c2 c3 c4, ?_⟩, fun c4 => ?_⟩⟩⟩⟩ <;> simp [mvC, k_r0_s, *]
def sfC (c : Ce) (k v : Int32) : Ce := if k < 0 ∨ ¬ k < 11 then c else upd c (448 + k).toNatClampNeg v
def f_setFigure (k v : Int32) (M : Mm) : Option Rs := some (.inl (none, k_r0 M (sfC (M.1 0) k v)))
theorem p_setFigure (ad : Nat → Nat) (x0 x1 : Int32) (M : Mm) (r : Rs) (h : f_setFigure x0 x1 M = some r) : T_X0_setFigure_0 ad r [some (.ref (ad 2)), some (.int x0), some (.int x1)] [] M := by
  cases h
  simp only [T_X0_setFigure_10, T_X0_setFigure_0, tt_c, tt_lc, tt_il, tt_ll, tt_al, tt_is, tt_lsv, tt_as, tt_inc, tt_add, tt_sub, tt_mul, tt_and, tt_ladd, tt_lmul, tt_i2l, tt_lcmp, tt_dupr, tt_dup2, tt_eq0, tt_lt0, tt_le0, tt_ge0, tt_gt0, tt_eq2, tt_lt2, tt_ge2, tt_gt2, tt_le2, tt_gr, tt_gi, tt_pi, tt_gl, tt_pl, tt_ia, tt_st, tt_ir, tt_zr, tt_lr, tt_vr, tt_cv, tt_cs, tt_max, tt_min, tt_rem, tt_xor, tt_len, tt_cp, tt_thr, tt_xv, tt_xs, k_sv, k_cl, k_kz, List.getElem?_cons_zero, List.getElem?_cons_succ, List.drop_succ_cons, List.drop_zero, List.take_succ_cons, List.take_zero, List.reverse_cons, List.reverse_nil, List.nil_append, List.cons_append, List.length_cons, List.length_nil, Option.toList_some, Option.toList_none, Nat.reduceAdd, Nat.reduceLeDiff, true_and, and_true, sp_I, sp_II, sp_III, sp_JI, sp_JJ, sp_R2, sp_R5I, sp_V]
  refine ⟨fun c1 => ?_, fun c1 => ⟨fun c2 => ⟨k_fin c1 c2, ?_⟩, fun c2 => ?_⟩⟩ <;> simp [sfC, k_r0_s, k_up0, *]
def afC (c : Ce) (k more : Int32) : Ce := sfC c k (figC c k + more)
def f_addToFigure (k more : Int32) (M : Mm) : Option Rs := some (.inl (none, k_r0 M (afC (M.1 0) k more)))
theorem p_addToFigure (ad : Nat → Nat) (x0 x1 : Int32) (M : Mm) (r : Rs) (h : f_addToFigure x0 x1 M = some r) : T_X0_addToFigure_0 ad r (sp_I f_figure) (sp_II f_setFigure) [some (.ref (ad 2)), some (.int x0), some (.int x1)] [] M := by
  cases h
  simp only [T_X0_addToFigure_0, tt_c, tt_lc, tt_il, tt_ll, tt_al, tt_is, tt_lsv, tt_as, tt_inc, tt_add, tt_sub, tt_mul, tt_and, tt_ladd, tt_lmul, tt_i2l, tt_lcmp, tt_dupr, tt_dup2, tt_eq0, tt_lt0, tt_le0, tt_ge0, tt_gt0, tt_eq2, tt_lt2, tt_ge2, tt_gt2, tt_le2, tt_gr, tt_gi, tt_pi, tt_gl, tt_pl, tt_ia, tt_st, tt_ir, tt_zr, tt_lr, tt_vr, tt_cv, tt_cs, tt_max, tt_min, tt_rem, tt_xor, tt_len, tt_cp, tt_thr, tt_xv, tt_xs, k_sv, k_cl, k_kz, List.getElem?_cons_zero, List.getElem?_cons_succ, List.drop_succ_cons, List.drop_zero, List.take_succ_cons, List.take_zero, List.reverse_cons, List.reverse_nil, List.nil_append, List.cons_append, List.length_cons, List.length_nil, Option.toList_some, Option.toList_none, Nat.reduceAdd, Nat.reduceLeDiff, true_and, and_true, sp_I, sp_II, sp_III, sp_JI, sp_JJ, sp_R2, sp_R5I, sp_V, f_figure, f_setFigure, afC]
def tpC (c : Ce) (o w s : Int32) : Ce := afC (mvC (mvC c w s (-1)) o s (pC c w s)) 6 1
def f_takePlace (o w s : Int32) (M : Mm) : Option Rs := some (.inl (none, k_r0 M (tpC (M.1 0) o w s)))
theorem p_takePlace (ad : Nat → Nat) (x0 x1 x2 : Int32) (M : Mm) (r : Rs) (h : f_takePlace x0 x1 x2 M = some r) : T_X1_takePlace_0 ad r (sp_II f_addToFigure) (sp_III f_moveTo) (sp_II f_parentOf) [some (.ref (ad 1)), some (.int x0), some (.int x1), some (.int x2), none] [] M := by
  cases h
  simp only [T_X1_takePlace_0, tt_c, tt_lc, tt_il, tt_ll, tt_al, tt_is, tt_lsv, tt_as, tt_inc, tt_add, tt_sub, tt_mul, tt_and, tt_ladd, tt_lmul, tt_i2l, tt_lcmp, tt_dupr, tt_dup2, tt_eq0, tt_lt0, tt_le0, tt_ge0, tt_gt0, tt_eq2, tt_lt2, tt_ge2, tt_gt2, tt_le2, tt_gr, tt_gi, tt_pi, tt_gl, tt_pl, tt_ia, tt_st, tt_ir, tt_zr, tt_lr, tt_vr, tt_cv, tt_cs, tt_max, tt_min, tt_rem, tt_xor, tt_len, tt_cp, tt_thr, tt_xv, tt_xs, k_sv, k_cl, k_kz, List.getElem?_cons_zero, List.getElem?_cons_succ, List.drop_succ_cons, List.drop_zero, List.take_succ_cons, List.take_zero, List.reverse_cons, List.reverse_nil, List.nil_append, List.cons_append, List.length_cons, List.length_nil, Option.toList_some, Option.toList_none, Nat.reduceAdd, Nat.reduceLeDiff, true_and, and_true, sp_I, sp_II, sp_III, sp_JI, sp_JJ, sp_R2, sp_R5I, sp_V, f_addToFigure, f_moveTo, f_parentOf, k_r0_0, k_r0_r, tpC]
def asC (c : Ce) (o s sp : Int32) : Ce := if sp = -1 then c else afC (mvC c o s sp) 7 1
def f_attachToSpare (o s sp : Int32) (M : Mm) : Option Rs := some (.inl (none, k_r0 M (asC (M.1 0) o s sp)))
theorem p_attachToSpare (ad : Nat → Nat) (x0 x1 x2 : Int32) (M : Mm) (r : Rs) (h : f_attachToSpare x0 x1 x2 M = some r) : T_X1_attachToSpare_0 ad r (sp_II f_addToFigure) (sp_III f_moveTo) [some (.ref (ad 1)), some (.int x0), some (.int x1), some (.int x2)] [] M := by
  cases h
  simp only [T_X1_attachToSpare_25, T_X1_attachToSpare_0, tt_c, tt_lc, tt_il, tt_ll, tt_al, tt_is, tt_lsv, tt_as, tt_inc, tt_add, tt_sub, tt_mul, tt_and, tt_ladd, tt_lmul, tt_i2l, tt_lcmp, tt_dupr, tt_dup2, tt_eq0, tt_lt0, tt_le0, tt_ge0, tt_gt0, tt_eq2, tt_lt2, tt_ge2, tt_gt2, tt_le2, tt_gr, tt_gi, tt_pi, tt_gl, tt_pl, tt_ia, tt_st, tt_ir, tt_zr, tt_lr, tt_vr, tt_cv, tt_cs, tt_max, tt_min, tt_rem, tt_xor, tt_len, tt_cp, tt_thr, tt_xv, tt_xs, k_sv, k_cl, k_kz, List.getElem?_cons_zero, List.getElem?_cons_succ, List.drop_succ_cons, List.drop_zero, List.take_succ_cons, List.take_zero, List.reverse_cons, List.reverse_nil, List.nil_append, List.cons_append, List.length_cons, List.length_nil, Option.toList_some, Option.toList_none, Nat.reduceAdd, Nat.reduceLeDiff, true_and, and_true, sp_I, sp_II, sp_III, sp_JI, sp_JJ, sp_R2, sp_R5I, sp_V, f_addToFigure, f_moveTo, k_r0_0, k_r0_r]
  refine ⟨fun c1 => ?_, fun c1 => ?_⟩ <;> simp [asC, k_r0_s, *]
def atGo (s : Int32) : Nat → Ce → Int32 → Int32 → Ce
  | 0, c, _, _ => c
  | n + 1, c, o, p => if rmC c p s = true then mvC c o s p
    else if ¬ lcC c p s = -1 ∧ beC c o (lcC c p s) s = true ∧ cbC c o s = true then atGo s n (tpC c o (lcC c p s) s) (lcC c p s) o
    else if fiC c p s = -1 then asC c o s (smC c s) else atGo s n c o (fiC c p s)
def atC (c : Ce) (x s : Int32) : Ce := atGo s 33 c x 100
def f_attach (x s : Int32) (M : Mm) : Option Rs := some (.inl (none, k_r0 M (atC (M.1 0) x s)))
theorem p_attach (ad : Nat → Nat) (x0 x1 : Int32) (M : Mm) (r : Rs) (h : f_attach x0 x1 M = some r) : T_X1_attach_0 ad r (sp_III f_moveTo) (sp_III f_attachToSpare) (sp_II f_canBeInner) (sp_II f_firstInnerChild) (sp_III f_isBefore) (sp_II f_isRoomAt) (sp_II f_lastChild) (sp_I f_spareMember) (sp_III f_takePlace) [some (.ref (ad 1)), some (.int x0), some (.int x1), none, none, none, none] [] M := by
  cases h
  simp only [T_X1_attach_0, tt_c, tt_lc, tt_il, tt_ll, tt_al, tt_is, tt_lsv, tt_as, tt_inc, tt_add, tt_sub, tt_mul, tt_and, tt_ladd, tt_lmul, tt_i2l, tt_lcmp, tt_dupr, tt_dup2, tt_eq0, tt_lt0, tt_le0, tt_ge0, tt_gt0, tt_eq2, tt_lt2, tt_ge2, tt_gt2, tt_le2, tt_gr, tt_gi, tt_pi, tt_gl, tt_pl, tt_ia, tt_st, tt_ir, tt_zr, tt_lr, tt_vr, tt_cv, tt_cs, tt_max, tt_min, tt_rem, tt_xor, tt_len, tt_cp, tt_thr, tt_xv, tt_xs, k_sv, k_cl, k_kz, List.getElem?_cons_zero, List.getElem?_cons_succ, List.drop_succ_cons, List.drop_zero, List.take_succ_cons, List.take_zero, List.reverse_cons, List.reverse_nil, List.nil_append, List.cons_append, List.length_cons, List.length_nil, Option.toList_some, Option.toList_none, Nat.reduceAdd, Nat.reduceLeDiff, true_and, and_true, sp_I, sp_II, sp_III, sp_JI, sp_JJ, sp_R2, sp_R5I, sp_V]
  refine k_eqM (k_r0_s M) (lp_of (σ := Nat × Int32 × Int32 × Ce × Option Value) (fun q => q.1 ≤ 33 ∧ atGo x1 (33 - q.1) q.2.2.2.1 q.2.1 q.2.2.1 = atC (M.1 0) x0 x1) (fun q => [some (.ref (ad 1)), some (.int x0), some (.int x1), some (.int q.2.1), some (.int q.2.2.1), some (.int (nI q.1)), q.2.2.2.2]) (fun q => k_r0 M q.2.2.2.1) (fun q => 33 - q.1) ?_ (0, x0, 100, M.1 0, none) ⟨by omega, rfl⟩)
  rintro k ⟨j, o, p, c, lst⟩ ⟨hj, hd⟩ hk
  dsimp only at hj hd
  simp only [T_X1_attach_117, T_X1_attach_90, T_X1_attach_9, T_X1_attach_0, tt_c, tt_lc, tt_il, tt_ll, tt_al, tt_is, tt_lsv, tt_as, tt_inc, tt_add, tt_sub, tt_mul, tt_and, tt_ladd, tt_lmul, tt_i2l, tt_lcmp, tt_dupr, tt_dup2, tt_eq0, tt_lt0, tt_le0, tt_ge0, tt_gt0, tt_eq2, tt_lt2, tt_ge2, tt_gt2, tt_le2, tt_gr, tt_gi, tt_pi, tt_gl, tt_pl, tt_ia, tt_st, tt_ir, tt_zr, tt_lr, tt_vr, tt_cv, tt_cs, tt_max, tt_min, tt_rem, tt_xor, tt_len, tt_cp, tt_thr, tt_xv, tt_xs, k_sv, k_cl, k_kz, List.getElem?_cons_zero, List.getElem?_cons_succ, List.drop_succ_cons, List.drop_zero, List.take_succ_cons, List.take_zero, List.reverse_cons, List.reverse_nil, List.nil_append, List.cons_append, List.length_cons, List.length_nil, Option.toList_some, Option.toList_none, Nat.reduceAdd, Nat.reduceLeDiff, true_and, and_true, sp_I, sp_II, sp_III, sp_JI, sp_JJ, sp_R2, sp_R5I, sp_V, f_moveTo, f_attachToSpare, f_canBeInner, f_firstInnerChild, f_isBefore, f_isRoomAt, f_lastChild, f_spareMember, f_takePlace, k_r0_0, k_r0_r, gt32 hj, bI_0]
  refine ⟨fun c1 => ?_, fun c1 => ?_⟩
  · subst c1
    rw [← hd]
    rfl
  · rw [show 33 - j = (32 - j) + 1 by omega, atGo] at hd
    refine ⟨fun c2 => ?_, fun c2 => ?_⟩
    · rw [if_neg (by simp [c2])] at hd
      have key : ∀ h0 : ¬ (¬ lcC c p x1 = -1 ∧ beC c o (lcC c p x1) x1 = true ∧ cbC c o x1 = true), (fiC c p x1 = -1 → asC c o x1 (smC c x1) = atC (M.1 0) x0 x1) ∧ (¬ fiC c p x1 = -1 → atGo x1 (32 - j) c o (fiC c p x1) = atC (M.1 0) x0 x1) := by
        intro h0
        rw [if_neg h0] at hd
        refine ⟨fun q => ?_, fun q => ?_⟩
        · rw [if_pos q] at hd
          exact hd
        · rw [if_neg q] at hd
          exact hd
      refine ⟨fun c3 => ⟨fun c6 => ?_, fun c6 => ?_⟩, fun c3 => ⟨fun c4 => ⟨fun c6 => ?_, fun c6 => ?_⟩, fun c4 => ⟨fun c5 => ⟨fun c6 => ?_, fun c6 => ?_⟩, fun c5 => ?_⟩⟩⟩
      · rw [(key (fun z => z.1 c3)).1 c6]
      · have := hk (j + 1, o, fiC c p x1, c, some (.int (lcC c p x1))) ⟨by dsimp only; omega, by dsimp only; rw [show 33 - (j + 1) = 32 - j by omega]; exact (key (fun z => z.1 c3)).2 c6⟩ (by dsimp only; omega)
        simpa [nI_succ] using this
      · rw [(key (fun z => by rw [c4] at z; cases z.2.1)).1 c6]
      · have := hk (j + 1, o, fiC c p x1, c, some (.int (lcC c p x1))) ⟨by dsimp only; omega, by dsimp only; rw [show 33 - (j + 1) = 32 - j by omega]; exact (key (fun z => by rw [c4] at z; cases z.2.1)).2 c6⟩ (by dsimp only; omega)
        simpa [nI_succ] using this
      · rw [(key (fun z => by rw [c5] at z; cases z.2.2)).1 c6]
      · have := hk (j + 1, o, fiC c p x1, c, some (.int (lcC c p x1))) ⟨by dsimp only; omega, by dsimp only; rw [show 33 - (j + 1) = 32 - j by omega]; exact (key (fun z => by rw [c5] at z; cases z.2.2)).2 c6⟩ (by dsimp only; omega)
        simpa [nI_succ] using this
      · rw [if_pos ⟨c3, by simpa using c4, by simpa using c5⟩] at hd
        have := hk (j + 1, lcC c p x1, o, tpC c o (lcC c p x1) x1, some (.int (lcC c p x1))) ⟨by dsimp only; omega, by dsimp only; rw [show 33 - (j + 1) = 32 - j by omega]; exact hd⟩ (by dsimp only; omega)
        simpa [nI_succ] using this
    · rw [if_pos (by simpa using c2)] at hd
      rw [hd]
def aoF (s : Int32) (x : Nat) (c : Ce) : Ce := if orC c (nI x) s = true then atC c (nI x) s else c
def aoG (s : Nat) (c : Ce) : Ce := fold2 (aoF (nI s)) c 32
def aoC (c : Ce) : Ce := fold2 aoG c 4
def f_attachOrphans (M : Mm) : Option Rs := some (.inl (none, k_r0 M (aoC (M.1 0))))
theorem p_attachOrphans (ad : Nat → Nat) (M : Mm) (r : Rs) (h : f_attachOrphans M = some r) : T_X1_attachOrphans_0 ad r (sp_II f_attach) (sp_II f_isOrphan) [some (.ref (ad 1)), none, none] [] M := by
  cases h
  simp only [T_X1_attachOrphans_0, tt_c, tt_lc, tt_il, tt_ll, tt_al, tt_is, tt_lsv, tt_as, tt_inc, tt_add, tt_sub, tt_mul, tt_and, tt_ladd, tt_lmul, tt_i2l, tt_lcmp, tt_dupr, tt_dup2, tt_eq0, tt_lt0, tt_le0, tt_ge0, tt_gt0, tt_eq2, tt_lt2, tt_ge2, tt_gt2, tt_le2, tt_gr, tt_gi, tt_pi, tt_gl, tt_pl, tt_ia, tt_st, tt_ir, tt_zr, tt_lr, tt_vr, tt_cv, tt_cs, tt_max, tt_min, tt_rem, tt_xor, tt_len, tt_cp, tt_thr, tt_xv, tt_xs, k_sv, k_cl, k_kz, List.getElem?_cons_zero, List.getElem?_cons_succ, List.drop_succ_cons, List.drop_zero, List.take_succ_cons, List.take_zero, List.reverse_cons, List.reverse_nil, List.nil_append, List.cons_append, List.length_cons, List.length_nil, Option.toList_some, Option.toList_none, Nat.reduceAdd, Nat.reduceLeDiff, true_and, and_true, sp_I, sp_II, sp_III, sp_JI, sp_JJ, sp_R2, sp_R5I, sp_V]
  refine k_eqM (k_r0_s M) (lp_of (σ := Nat × Option Value) (fun j => j.1 ≤ 4) (fun j => [some (.ref (ad 1)), some (.int (nI j.1)), j.2]) (fun j => k_r0 M (fold2 aoG (M.1 0) j.1)) (fun j => 4 - j.1) ?_ (0, none) (by show 0 ≤ 4; omega))
  rintro k ⟨s, o⟩ hs hk
  dsimp only at hs
  simp only [T_X1_attachOrphans_9, tt_c, tt_lc, tt_il, tt_ll, tt_al, tt_is, tt_lsv, tt_as, tt_inc, tt_add, tt_sub, tt_mul, tt_and, tt_ladd, tt_lmul, tt_i2l, tt_lcmp, tt_dupr, tt_dup2, tt_eq0, tt_lt0, tt_le0, tt_ge0, tt_gt0, tt_eq2, tt_lt2, tt_ge2, tt_gt2, tt_le2, tt_gr, tt_gi, tt_pi, tt_gl, tt_pl, tt_ia, tt_st, tt_ir, tt_zr, tt_lr, tt_vr, tt_cv, tt_cs, tt_max, tt_min, tt_rem, tt_xor, tt_len, tt_cp, tt_thr, tt_xv, tt_xs, k_sv, k_cl, k_kz, List.getElem?_cons_zero, List.getElem?_cons_succ, List.drop_succ_cons, List.drop_zero, List.take_succ_cons, List.take_zero, List.reverse_cons, List.reverse_nil, List.nil_append, List.cons_append, List.length_cons, List.length_nil, Option.toList_some, Option.toList_none, Nat.reduceAdd, Nat.reduceLeDiff, true_and, and_true, sp_I, sp_II, sp_III, sp_JI, sp_JJ, sp_R2, sp_R5I, sp_V, ge4 hs]
  refine ⟨fun c1 => ?_, fun c1 => ?_⟩
  · subst c1
    rfl
  · refine k_eqM (M1 := k_r0 M (fold2 (aoF (nI s)) (fold2 aoG (M.1 0) s) 0)) (by rw [fold2_0]) (lp_of (σ := Nat) (fun j => j ≤ 32) (fun j => [some (.ref (ad 1)), some (.int (nI s)), some (.int (nI j))]) (fun j => k_r0 M (fold2 (aoF (nI s)) (fold2 aoG (M.1 0) s) j)) (fun j => 32 - j) ?_ 0 (by omega))
    intro k2 j hj hk2
    simp only [T_X1_attachOrphans_30, tt_c, tt_lc, tt_il, tt_ll, tt_al, tt_is, tt_lsv, tt_as, tt_inc, tt_add, tt_sub, tt_mul, tt_and, tt_ladd, tt_lmul, tt_i2l, tt_lcmp, tt_dupr, tt_dup2, tt_eq0, tt_lt0, tt_le0, tt_ge0, tt_gt0, tt_eq2, tt_lt2, tt_ge2, tt_gt2, tt_le2, tt_gr, tt_gi, tt_pi, tt_gl, tt_pl, tt_ia, tt_st, tt_ir, tt_zr, tt_lr, tt_vr, tt_cv, tt_cs, tt_max, tt_min, tt_rem, tt_xor, tt_len, tt_cp, tt_thr, tt_xv, tt_xs, k_sv, k_cl, k_kz, List.getElem?_cons_zero, List.getElem?_cons_succ, List.drop_succ_cons, List.drop_zero, List.take_succ_cons, List.take_zero, List.reverse_cons, List.reverse_nil, List.nil_append, List.cons_append, List.length_cons, List.length_nil, Option.toList_some, Option.toList_none, Nat.reduceAdd, Nat.reduceLeDiff, true_and, and_true, sp_I, sp_II, sp_III, sp_JI, sp_JJ, sp_R2, sp_R5I, sp_V, f_attach, f_isOrphan, ge32 hj, bI_0, k_r0_0, k_r0_r]
    refine ⟨fun c2 => ?_, fun c2 => ?_⟩
    · subst c2
      have := hk (s + 1, some (.int (nI 32))) (by show s + 1 ≤ 4; omega) (by show 4 - (s + 1) < 4 - s; omega)
      simpa [nI_succ, fold2, aoG] using this
    · have hk1 := hk2 (j + 1) (by omega) (by omega)
      simp only [fold2, nI_succ] at hk1
      generalize fold2 (aoF (nI s)) (fold2 aoG (M.1 0) s) j = c at hk1 ⊢
      simp only [aoF] at hk1
      refine ⟨fun c3 => ?_, fun c3 => ?_⟩ <;> simpa [*] using hk1
