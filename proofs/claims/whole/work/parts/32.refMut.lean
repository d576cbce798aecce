/-! the reference in numbers: how orphans are attached -/
theorem cl_0 : (0 : Int32).toNatClampNeg = 0 := rfl
theorem cl_1 : (1 : Int32).toNatClampNeg = 1 := rfl
theorem cl_2 : (2 : Int32).toNatClampNeg = 2 := rfl
theorem cl_3 : (3 : Int32).toNatClampNeg = 3 := rfl
theorem cl_4 : (4 : Int32).toNatClampNeg = 4 := rfl
theorem cl_5 : (5 : Int32).toNatClampNeg = 5 := rfl
theorem cl_6 : (6 : Int32).toNatClampNeg = 6 := rfl
theorem cl_7 : (7 : Int32).toNatClampNeg = 7 := rfl
theorem cl_8 : (8 : Int32).toNatClampNeg = 8 := rfl
theorem cl_9 : (9 : Int32).toNatClampNeg = 9 := rfl
theorem cl_10 : (10 : Int32).toNatClampNeg = 10 := rfl
theorem vi_0 : vp_in 0 395 := vp_in_nI (n := 0) (by omega) (by omega)
theorem vi_1 : vp_in 1 395 := vp_in_nI (n := 1) (by omega) (by omega)
theorem vi_2 : vp_in 2 395 := vp_in_nI (n := 2) (by omega) (by omega)
theorem vi_3 : vp_in 3 395 := vp_in_nI (n := 3) (by omega) (by omega)
theorem vi_4 : vp_in 4 395 := vp_in_nI (n := 4) (by omega) (by omega)
theorem vi_5 : vp_in 5 395 := vp_in_nI (n := 5) (by omega) (by omega)
theorem vi_6 : vp_in 6 395 := vp_in_nI (n := 6) (by omega) (by omega)
theorem vi_7 : vp_in 7 395 := vp_in_nI (n := 7) (by omega) (by omega)
theorem vi_8 : vp_in 8 395 := vp_in_nI (n := 8) (by omega) (by omega)
theorem vi_9 : vp_in 9 395 := vp_in_nI (n := 9) (by omega) (by omega)
theorem vi_10 : vp_in 10 395 := vp_in_nI (n := 10) (by omega) (by omega)
def tpR (m : Re) (x a l s : Int32) : Re := upd (upR (upR m x (8 + s) a) l (8 + s) (-1)) 9 (upR (upR m x (8 + s) a) l (8 + s) (-1) 9 + 1)
def asR (m : Re) (x s b : Int32) : Re := upR (upd m 10 (m 10 + if b = -1 then 0 else 1)) x (8 + s) b
def arO (s : Int32) : Nat → Re → Int32 → Int32 → Option Re
  | 0, _, _, _ => none
  | n + 1, m, x, a => if bM x = false then
      (if a = -1 then (if wfR m s = true then some (asR m x s (nrR m x s)) else none)
      else if a = 100 ∨ (bM a = false ∧ okR m a s = true) then
        (if rmR m a s = true then some (upR m x (8 + s) a)
        else if ¬ lrR m a s = -1 ∧ ahR m x (lrR m a s) s = true ∧ cbR m x s = true then arO s n (tpR m x a (lrR m a s) s) (lrR m a s) x
        else arO s n m x (firR m a s))
      else none) else none
def fr_attach (x s : Int32) (M : Mm) : Option Rs := if bS s = false then (arO s 35 (M.1 2) x 100).map (fun m => .inl (none, k_r2 M m)) else none
theorem pr_attach (ad : Nat → Nat) (x0 x1 : Int32) (M : Mm) (r : Rs) (h : fr_attach x0 x1 M = some r) : T_X4_attach_0 ad r (sp_II fr_canBeInner) (sp_II fr_firstInner) (sp_III fr_isAhead) (sp_II fr_isRoomy) (sp_II fr_lastChild) (sp_II fr_nearestRoom) (sp_III fr_put) [some (.ref (ad 6)), some (.int x0), some (.int x1), none, none, none] [] M := by
  unfold fr_attach at h
  split at h
  · next hs =>
    obtain ⟨mf, hmf, rfl⟩ := Option.map_eq_some_iff.mp h
    simp only [T_X4_attach_0, tt_c, tt_lc, tt_il, tt_ll, tt_al, tt_is, tt_lsv, tt_as, tt_inc, tt_add, tt_sub, tt_mul, tt_and, tt_ladd, tt_lmul, tt_i2l, tt_lcmp, tt_dupr, tt_dup2, tt_eq0, tt_lt0, tt_le0, tt_ge0, tt_gt0, tt_eq2, tt_lt2, tt_ge2, tt_gt2, tt_le2, tt_gr, tt_gi, tt_pi, tt_gl, tt_pl, tt_ia, tt_st, tt_ir, tt_zr, tt_lr, tt_vr, tt_cv, tt_cs, tt_max, tt_min, tt_rem, tt_xor, tt_len, tt_cp, tt_thr, tt_xv, tt_xs, k_sv, k_cl, k_kz, List.getElem?_cons_zero, List.getElem?_cons_succ, List.drop_succ_cons, List.drop_zero, List.take_succ_cons, List.take_zero, List.reverse_cons, List.reverse_nil, List.nil_append, List.cons_append, List.length_cons, List.length_nil, Option.toList_some, Option.toList_none, Nat.reduceAdd, Nat.reduceLeDiff, true_and, and_true, sp_I, sp_II, sp_III, sp_J, sp_JI, sp_JJ, sp_R2, sp_R5I, sp_V]
    refine k_eqM (k_r2_s M) (lp_of (σ := Nat × Re × Int32 × Int32 × Option Value) (fun q => arO x1 q.1 q.2.1 q.2.2.1 q.2.2.2.1 = some mf) (fun q => [some (.ref (ad 6)), some (.int x0), some (.int x1), some (.int q.2.2.1), some (.int q.2.2.2.1), q.2.2.2.2]) (fun q => k_r2 M q.2.1) (fun q => q.1) ?_ (35, M.1 2, x0, 100, none) hmf)
    rintro k ⟨n, m, x, a, lst⟩ hd hk
    dsimp only at hd
    cases n with
    | zero => cases hd
    | succ n =>
      rw [arO] at hd
      split at hd
      · next hx =>
        simp only [T_X4_attach_6, T_X4_attach_99, T_X4_attach_108, T_X4_attach_111, tt_c, tt_lc, tt_il, tt_ll, tt_al, tt_is, tt_lsv, tt_as, tt_inc, tt_add, tt_sub, tt_mul, tt_and, tt_ladd, tt_lmul, tt_i2l, tt_lcmp, tt_dupr, tt_dup2, tt_eq0, tt_lt0, tt_le0, tt_ge0, tt_gt0, tt_eq2, tt_lt2, tt_ge2, tt_gt2, tt_le2, tt_gr, tt_gi, tt_pi, tt_gl, tt_pl, tt_ia, tt_st, tt_ir, tt_zr, tt_lr, tt_vr, tt_cv, tt_cs, tt_max, tt_min, tt_rem, tt_xor, tt_len, tt_cp, tt_thr, tt_xv, tt_xs, k_sv, k_cl, k_kz, List.getElem?_cons_zero, List.getElem?_cons_succ, List.drop_succ_cons, List.drop_zero, List.take_succ_cons, List.take_zero, List.reverse_cons, List.reverse_nil, List.nil_append, List.cons_append, List.length_cons, List.length_nil, Option.toList_some, Option.toList_none, Nat.reduceAdd, Nat.reduceLeDiff, true_and, and_true, sp_I, sp_II, sp_III, sp_J, sp_JI, sp_JJ, sp_R2, sp_R5I, sp_V]
        refine ⟨fun c1 => ?_, fun c1 => ?_⟩
        · rw [if_pos c1] at hd
          split at hd
          · next hw =>
            cases hd
            subst c1
            simp only [T_X4_attach_144, T_X4_attach_146, tt_c, tt_lc, tt_il, tt_ll, tt_al, tt_is, tt_lsv, tt_as, tt_inc, tt_add, tt_sub, tt_mul, tt_and, tt_ladd, tt_lmul, tt_i2l, tt_lcmp, tt_dupr, tt_dup2, tt_eq0, tt_lt0, tt_le0, tt_ge0, tt_gt0, tt_eq2, tt_lt2, tt_ge2, tt_gt2, tt_le2, tt_gr, tt_gi, tt_pi, tt_gl, tt_pl, tt_ia, tt_st, tt_ir, tt_zr, tt_lr, tt_vr, tt_cv, tt_cs, tt_max, tt_min, tt_rem, tt_xor, tt_len, tt_cp, tt_thr, tt_xv, tt_xs, k_sv, k_cl, k_kz, List.getElem?_cons_zero, List.getElem?_cons_succ, List.drop_succ_cons, List.drop_zero, List.take_succ_cons, List.take_zero, List.reverse_cons, List.reverse_nil, List.nil_append, List.cons_append, List.length_cons, List.length_nil, Option.toList_some, Option.toList_none, Nat.reduceAdd, Nat.reduceLeDiff, true_and, and_true, sp_I, sp_II, sp_III, sp_J, sp_JI, sp_JJ, sp_R2, sp_R5I, sp_V, fr_nearestRoom, fr_put, k_r2_2, hs, hw, hx, bW_8 hs, and_self, if_true, vi_10, cl_10, k_up2, k_r2_r, not_true_eq_false, false_imp_iff]
            intro _
            refine ⟨fun c2 => ?_, fun c2 => ?_⟩ <;> simp [asR, c2]
          · cases hd
        · rw [if_neg c1] at hd
          split at hd
          · next hg =>
            simp only [tt_c, tt_lc, tt_il, tt_ll, tt_al, tt_is, tt_lsv, tt_as, tt_inc, tt_add, tt_sub, tt_mul, tt_and, tt_ladd, tt_lmul, tt_i2l, tt_lcmp, tt_dupr, tt_dup2, tt_eq0, tt_lt0, tt_le0, tt_ge0, tt_gt0, tt_eq2, tt_lt2, tt_ge2, tt_gt2, tt_le2, tt_gr, tt_gi, tt_pi, tt_gl, tt_pl, tt_ia, tt_st, tt_ir, tt_zr, tt_lr, tt_vr, tt_cv, tt_cs, tt_max, tt_min, tt_rem, tt_xor, tt_len, tt_cp, tt_thr, tt_xv, tt_xs, k_sv, k_cl, k_kz, List.getElem?_cons_zero, List.getElem?_cons_succ, List.drop_succ_cons, List.drop_zero, List.take_succ_cons, List.take_zero, List.reverse_cons, List.reverse_nil, List.nil_append, List.cons_append, List.length_cons, List.length_nil, Option.toList_some, Option.toList_none, Nat.reduceAdd, Nat.reduceLeDiff, true_and, and_true, sp_I, sp_II, sp_III, sp_J, sp_JI, sp_JJ, sp_R2, sp_R5I, sp_V, fr_isRoomy, fr_lastChild, k_r2_2, hs, hg, and_self, if_true, bI_0]
            refine ⟨fun c2 => ?_, fun c2 => ?_⟩
            · simp only [c2, Bool.false_eq_true, if_false] at hd
              rcases lrR_mb m a x1 with c3 | c3
              · simp only [c3, not_true_eq_false, false_and, if_false] at hd
                refine ⟨fun _ => ?_, fun z => absurd c3 z⟩
                simp only [fr_firstInner, k_r2_2, hs, if_true, tt_c, tt_lc, tt_il, tt_ll, tt_al, tt_is, tt_lsv, tt_as, tt_inc, tt_add, tt_sub, tt_mul, tt_and, tt_ladd, tt_lmul, tt_i2l, tt_lcmp, tt_dupr, tt_dup2, tt_eq0, tt_lt0, tt_le0, tt_ge0, tt_gt0, tt_eq2, tt_lt2, tt_ge2, tt_gt2, tt_le2, tt_gr, tt_gi, tt_pi, tt_gl, tt_pl, tt_ia, tt_st, tt_ir, tt_zr, tt_lr, tt_vr, tt_cv, tt_cs, tt_max, tt_min, tt_rem, tt_xor, tt_len, tt_cp, tt_thr, tt_xv, tt_xs, k_sv, k_cl, k_kz, List.getElem?_cons_zero, List.getElem?_cons_succ, List.drop_succ_cons, List.drop_zero, List.take_succ_cons, List.take_zero, List.reverse_cons, List.reverse_nil, List.nil_append, List.cons_append, List.length_cons, List.length_nil, Option.toList_some, Option.toList_none, Nat.reduceAdd, Nat.reduceLeDiff, true_and, and_true, sp_I, sp_II, sp_III, sp_J, sp_JI, sp_JJ, sp_R2, sp_R5I, sp_V]
                exact hk (n, m, x, firR m a x1, _) hd (by dsimp only; omega)
              · refine ⟨fun c4 => ?_, fun c4 => ?_⟩
                · simp only [c4, not_true_eq_false, false_and, if_false] at hd
                  simp only [fr_firstInner, k_r2_2, hs, if_true, tt_c, tt_lc, tt_il, tt_ll, tt_al, tt_is, tt_lsv, tt_as, tt_inc, tt_add, tt_sub, tt_mul, tt_and, tt_ladd, tt_lmul, tt_i2l, tt_lcmp, tt_dupr, tt_dup2, tt_eq0, tt_lt0, tt_le0, tt_ge0, tt_gt0, tt_eq2, tt_lt2, tt_ge2, tt_gt2, tt_le2, tt_gr, tt_gi, tt_pi, tt_gl, tt_pl, tt_ia, tt_st, tt_ir, tt_zr, tt_lr, tt_vr, tt_cv, tt_cs, tt_max, tt_min, tt_rem, tt_xor, tt_len, tt_cp, tt_thr, tt_xv, tt_xs, k_sv, k_cl, k_kz, List.getElem?_cons_zero, List.getElem?_cons_succ, List.drop_succ_cons, List.drop_zero, List.take_succ_cons, List.take_zero, List.reverse_cons, List.reverse_nil, List.nil_append, List.cons_append, List.length_cons, List.length_nil, Option.toList_some, Option.toList_none, Nat.reduceAdd, Nat.reduceLeDiff, true_and, and_true, sp_I, sp_II, sp_III, sp_J, sp_JI, sp_JJ, sp_R2, sp_R5I, sp_V]
                  exact hk (n, m, x, firR m a x1, _) hd (by dsimp only; omega)
                · simp only [fr_isAhead, k_r2_2, hx, c3, and_self, if_true, tt_c, tt_lc, tt_il, tt_ll, tt_al, tt_is, tt_lsv, tt_as, tt_inc, tt_add, tt_sub, tt_mul, tt_and, tt_ladd, tt_lmul, tt_i2l, tt_lcmp, tt_dupr, tt_dup2, tt_eq0, tt_lt0, tt_le0, tt_ge0, tt_gt0, tt_eq2, tt_lt2, tt_ge2, tt_gt2, tt_le2, tt_gr, tt_gi, tt_pi, tt_gl, tt_pl, tt_ia, tt_st, tt_ir, tt_zr, tt_lr, tt_vr, tt_cv, tt_cs, tt_max, tt_min, tt_rem, tt_xor, tt_len, tt_cp, tt_thr, tt_xv, tt_xs, k_sv, k_cl, k_kz, List.getElem?_cons_zero, List.getElem?_cons_succ, List.drop_succ_cons, List.drop_zero, List.take_succ_cons, List.take_zero, List.reverse_cons, List.reverse_nil, List.nil_append, List.cons_append, List.length_cons, List.length_nil, Option.toList_some, Option.toList_none, Nat.reduceAdd, Nat.reduceLeDiff, true_and, and_true, sp_I, sp_II, sp_III, sp_J, sp_JI, sp_JJ, sp_R2, sp_R5I, sp_V, bI_0]
                  refine ⟨fun c5 => ?_, fun c5 => ?_⟩
                  · simp only [c5, Bool.false_eq_true, false_and, and_false, if_false] at hd
                    simp only [fr_firstInner, k_r2_2, hs, if_true, tt_c, tt_lc, tt_il, tt_ll, tt_al, tt_is, tt_lsv, tt_as, tt_inc, tt_add, tt_sub, tt_mul, tt_and, tt_ladd, tt_lmul, tt_i2l, tt_lcmp, tt_dupr, tt_dup2, tt_eq0, tt_lt0, tt_le0, tt_ge0, tt_gt0, tt_eq2, tt_lt2, tt_ge2, tt_gt2, tt_le2, tt_gr, tt_gi, tt_pi, tt_gl, tt_pl, tt_ia, tt_st, tt_ir, tt_zr, tt_lr, tt_vr, tt_cv, tt_cs, tt_max, tt_min, tt_rem, tt_xor, tt_len, tt_cp, tt_thr, tt_xv, tt_xs, k_sv, k_cl, k_kz, List.getElem?_cons_zero, List.getElem?_cons_succ, List.drop_succ_cons, List.drop_zero, List.take_succ_cons, List.take_zero, List.reverse_cons, List.reverse_nil, List.nil_append, List.cons_append, List.length_cons, List.length_nil, Option.toList_some, Option.toList_none, Nat.reduceAdd, Nat.reduceLeDiff, true_and, and_true, sp_I, sp_II, sp_III, sp_J, sp_JI, sp_JJ, sp_R2, sp_R5I, sp_V]
                    exact hk (n, m, x, firR m a x1, _) hd (by dsimp only; omega)
                  · simp only [Bool.not_eq_false] at c5
                    simp only [fr_canBeInner, k_r2_2, hx, hs, and_self, if_true, tt_c, tt_lc, tt_il, tt_ll, tt_al, tt_is, tt_lsv, tt_as, tt_inc, tt_add, tt_sub, tt_mul, tt_and, tt_ladd, tt_lmul, tt_i2l, tt_lcmp, tt_dupr, tt_dup2, tt_eq0, tt_lt0, tt_le0, tt_ge0, tt_gt0, tt_eq2, tt_lt2, tt_ge2, tt_gt2, tt_le2, tt_gr, tt_gi, tt_pi, tt_gl, tt_pl, tt_ia, tt_st, tt_ir, tt_zr, tt_lr, tt_vr, tt_cv, tt_cs, tt_max, tt_min, tt_rem, tt_xor, tt_len, tt_cp, tt_thr, tt_xv, tt_xs, k_sv, k_cl, k_kz, List.getElem?_cons_zero, List.getElem?_cons_succ, List.drop_succ_cons, List.drop_zero, List.take_succ_cons, List.take_zero, List.reverse_cons, List.reverse_nil, List.nil_append, List.cons_append, List.length_cons, List.length_nil, Option.toList_some, Option.toList_none, Nat.reduceAdd, Nat.reduceLeDiff, true_and, and_true, sp_I, sp_II, sp_III, sp_J, sp_JI, sp_JJ, sp_R2, sp_R5I, sp_V, bI_0]
                    refine ⟨fun c6 => ?_, fun c6 => ?_⟩
                    · simp only [c6, Bool.false_eq_true, false_and, and_false, if_false] at hd
                      simp only [fr_firstInner, k_r2_2, hs, if_true, tt_c, tt_lc, tt_il, tt_ll, tt_al, tt_is, tt_lsv, tt_as, tt_inc, tt_add, tt_sub, tt_mul, tt_and, tt_ladd, tt_lmul, tt_i2l, tt_lcmp, tt_dupr, tt_dup2, tt_eq0, tt_lt0, tt_le0, tt_ge0, tt_gt0, tt_eq2, tt_lt2, tt_ge2, tt_gt2, tt_le2, tt_gr, tt_gi, tt_pi, tt_gl, tt_pl, tt_ia, tt_st, tt_ir, tt_zr, tt_lr, tt_vr, tt_cv, tt_cs, tt_max, tt_min, tt_rem, tt_xor, tt_len, tt_cp, tt_thr, tt_xv, tt_xs, k_sv, k_cl, k_kz, List.getElem?_cons_zero, List.getElem?_cons_succ, List.drop_succ_cons, List.drop_zero, List.take_succ_cons, List.take_zero, List.reverse_cons, List.reverse_nil, List.nil_append, List.cons_append, List.length_cons, List.length_nil, Option.toList_some, Option.toList_none, Nat.reduceAdd, Nat.reduceLeDiff, true_and, and_true, sp_I, sp_II, sp_III, sp_J, sp_JI, sp_JJ, sp_R2, sp_R5I, sp_V]
                      exact hk (n, m, x, firR m a x1, _) hd (by dsimp only; omega)
                    · simp only [Bool.not_eq_false] at c6
                      rw [if_pos ⟨c4, c5, c6⟩] at hd
                      simp only [fr_put, k_r2_2, k_r2_r, k_up2, hx, c3, bW_8 hs, and_self, if_true, tt_c, tt_lc, tt_il, tt_ll, tt_al, tt_is, tt_lsv, tt_as, tt_inc, tt_add, tt_sub, tt_mul, tt_and, tt_ladd, tt_lmul, tt_i2l, tt_lcmp, tt_dupr, tt_dup2, tt_eq0, tt_lt0, tt_le0, tt_ge0, tt_gt0, tt_eq2, tt_lt2, tt_ge2, tt_gt2, tt_le2, tt_gr, tt_gi, tt_pi, tt_gl, tt_pl, tt_ia, tt_st, tt_ir, tt_zr, tt_lr, tt_vr, tt_cv, tt_cs, tt_max, tt_min, tt_rem, tt_xor, tt_len, tt_cp, tt_thr, tt_xv, tt_xs, k_sv, k_cl, k_kz, List.getElem?_cons_zero, List.getElem?_cons_succ, List.drop_succ_cons, List.drop_zero, List.take_succ_cons, List.take_zero, List.reverse_cons, List.reverse_nil, List.nil_append, List.cons_append, List.length_cons, List.length_nil, Option.toList_some, Option.toList_none, Nat.reduceAdd, Nat.reduceLeDiff, true_and, and_true, sp_I, sp_II, sp_III, sp_J, sp_JI, sp_JJ, sp_R2, sp_R5I, sp_V, vi_9, cl_9]
                      exact hk (n, tpR m x a (lrR m a x1) x1, lrR m a x1, x, _) hd (by dsimp only; omega)
            · simp only [Bool.not_eq_false] at c2
              rw [if_pos c2] at hd
              cases hd
              refine ⟨fun z => absurd z c1, fun _ => ?_⟩
              simp only [T_X4_attach_146, fr_put, k_r2_2, k_r2_r, hx, bW_8 hs, and_self, if_true, tt_c, tt_lc, tt_il, tt_ll, tt_al, tt_is, tt_lsv, tt_as, tt_inc, tt_add, tt_sub, tt_mul, tt_and, tt_ladd, tt_lmul, tt_i2l, tt_lcmp, tt_dupr, tt_dup2, tt_eq0, tt_lt0, tt_le0, tt_ge0, tt_gt0, tt_eq2, tt_lt2, tt_ge2, tt_gt2, tt_le2, tt_gr, tt_gi, tt_pi, tt_gl, tt_pl, tt_ia, tt_st, tt_ir, tt_zr, tt_lr, tt_vr, tt_cv, tt_cs, tt_max, tt_min, tt_rem, tt_xor, tt_len, tt_cp, tt_thr, tt_xv, tt_xs, k_sv, k_cl, k_kz, List.getElem?_cons_zero, List.getElem?_cons_succ, List.drop_succ_cons, List.drop_zero, List.take_succ_cons, List.take_zero, List.reverse_cons, List.reverse_nil, List.nil_append, List.cons_append, List.length_cons, List.length_nil, Option.toList_some, Option.toList_none, Nat.reduceAdd, Nat.reduceLeDiff, true_and, and_true, sp_I, sp_II, sp_III, sp_J, sp_JI, sp_JJ, sp_R2, sp_R5I, sp_V]
          · cases hd
      · cases hd
  · cases h
/-- steps that may have no answer, from the one numbered j on -/
def goO {σ : Type} (g : Nat → σ → Option σ) : Nat → Nat → σ → Option σ
  | 0, _, m => some m
  | n + 1, j, m => (g j m).bind (goO g n (j + 1))
def aaF (s : Int32) (x : Nat) (m : Re) : Option Re := if icR m (nI x) (-1) s = true then arO s 35 m (nI x) 100 else some m
def aaG (s : Nat) (m : Re) : Option Re := goO (aaF (nI s)) 32 0 m
def aaO (m : Re) : Option Re := goO aaG 4 0 m
def fr_attachAll (M : Mm) : Option Rs := (aaO (M.1 2)).map (fun m => .inl (none, k_r2 M m))
theorem pr_attachAll (ad : Nat → Nat) (M : Mm) (r : Rs) (h : fr_attachAll M = some r) : T_X4_attachAll_0 ad r (sp_II fr_attach) (sp_III fr_isChild) [some (.ref (ad 6)), none, none] [] M := by
  obtain ⟨mf, hmf, rfl⟩ := Option.map_eq_some_iff.mp h
  simp only [T_X4_attachAll_0, tt_c, tt_lc, tt_il, tt_ll, tt_al, tt_is, tt_lsv, tt_as, tt_inc, tt_add, tt_sub, tt_mul, tt_and, tt_ladd, tt_lmul, tt_i2l, tt_lcmp, tt_dupr, tt_dup2, tt_eq0, tt_lt0, tt_le0, tt_ge0, tt_gt0, tt_eq2, tt_lt2, tt_ge2, tt_gt2, tt_le2, tt_gr, tt_gi, tt_pi, tt_gl, tt_pl, tt_ia, tt_st, tt_ir, tt_zr, tt_lr, tt_vr, tt_cv, tt_cs, tt_max, tt_min, tt_rem, tt_xor, tt_len, tt_cp, tt_thr, tt_xv, tt_xs, k_sv, k_cl, k_kz, List.getElem?_cons_zero, List.getElem?_cons_succ, List.drop_succ_cons, List.drop_zero, List.take_succ_cons, List.take_zero, List.reverse_cons, List.reverse_nil, List.nil_append, List.cons_append, List.length_cons, List.length_nil, Option.toList_some, Option.toList_none, Nat.reduceAdd, Nat.reduceLeDiff, true_and, and_true, sp_I, sp_II, sp_III, sp_J, sp_JI, sp_JJ, sp_R2, sp_R5I, sp_V]
  refine k_eqM (k_r2_s M) (lp_of (σ := Nat × Nat × Re × Option Value) (fun q => q.1 + q.2.1 = 4 ∧ goO aaG q.1 q.2.1 q.2.2.1 = some mf) (fun q => [some (.ref (ad 6)), some (.int (nI q.2.1)), q.2.2.2]) (fun q => k_r2 M q.2.2.1) (fun q => q.1) ?_ (4, 0, M.1 2, none) ⟨rfl, hmf⟩)
  rintro k ⟨n, j, m, o⟩ ⟨hj, hd⟩ hk
  dsimp only at hj hd
  simp only [T_X4_attachAll_2, tt_c, tt_lc, tt_il, tt_ll, tt_al, tt_is, tt_lsv, tt_as, tt_inc, tt_add, tt_sub, tt_mul, tt_and, tt_ladd, tt_lmul, tt_i2l, tt_lcmp, tt_dupr, tt_dup2, tt_eq0, tt_lt0, tt_le0, tt_ge0, tt_gt0, tt_eq2, tt_lt2, tt_ge2, tt_gt2, tt_le2, tt_gr, tt_gi, tt_pi, tt_gl, tt_pl, tt_ia, tt_st, tt_ir, tt_zr, tt_lr, tt_vr, tt_cv, tt_cs, tt_max, tt_min, tt_rem, tt_xor, tt_len, tt_cp, tt_thr, tt_xv, tt_xs, k_sv, k_cl, k_kz, List.getElem?_cons_zero, List.getElem?_cons_succ, List.drop_succ_cons, List.drop_zero, List.take_succ_cons, List.take_zero, List.reverse_cons, List.reverse_nil, List.nil_append, List.cons_append, List.length_cons, List.length_nil, Option.toList_some, Option.toList_none, Nat.reduceAdd, Nat.reduceLeDiff, true_and, and_true, sp_I, sp_II, sp_III, sp_J, sp_JI, sp_JJ, sp_R2, sp_R5I, sp_V, ge4 (show j ≤ 4 by omega)]
  refine ⟨fun c1 => ?_, fun c1 => ?_⟩
  · have hn : n = 0 := by omega
    subst hn
    cases hd
    rfl
  · obtain ⟨n, rfl⟩ : ∃ n', n = n' + 1 := ⟨n - 1, by omega⟩
    rw [goO] at hd
    obtain ⟨m1, hm1, hd⟩ := Option.bind_eq_some_iff.mp hd
    refine lp_of (σ := Nat × Nat × Re) (fun q => q.1 + q.2.1 = 32 ∧ goO (aaF (nI j)) q.1 q.2.1 q.2.2 = some m1) (fun q => [some (.ref (ad 6)), some (.int (nI j)), some (.int (nI q.2.1))]) (fun q => k_r2 M q.2.2) (fun q => q.1) ?_ (32, 0, m) ⟨rfl, hm1⟩
    rintro k2 ⟨n2, i, m2⟩ ⟨hi, hd2⟩ hk2
    dsimp only at hi hd2
    simp only [T_X4_attachAll_9, T_X4_attachAll_31, tt_c, tt_lc, tt_il, tt_ll, tt_al, tt_is, tt_lsv, tt_as, tt_inc, tt_add, tt_sub, tt_mul, tt_and, tt_ladd, tt_lmul, tt_i2l, tt_lcmp, tt_dupr, tt_dup2, tt_eq0, tt_lt0, tt_le0, tt_ge0, tt_gt0, tt_eq2, tt_lt2, tt_ge2, tt_gt2, tt_le2, tt_gr, tt_gi, tt_pi, tt_gl, tt_pl, tt_ia, tt_st, tt_ir, tt_zr, tt_lr, tt_vr, tt_cv, tt_cs, tt_max, tt_min, tt_rem, tt_xor, tt_len, tt_cp, tt_thr, tt_xv, tt_xs, k_sv, k_cl, k_kz, List.getElem?_cons_zero, List.getElem?_cons_succ, List.drop_succ_cons, List.drop_zero, List.take_succ_cons, List.take_zero, List.reverse_cons, List.reverse_nil, List.nil_append, List.cons_append, List.length_cons, List.length_nil, Option.toList_some, Option.toList_none, Nat.reduceAdd, Nat.reduceLeDiff, true_and, and_true, sp_I, sp_II, sp_III, sp_J, sp_JI, sp_JJ, sp_R2, sp_R5I, sp_V, ge32 (show i ≤ 32 by omega)]
    have hS := bS_n (show j < 4 by omega)
    refine ⟨fun c2 => ?_, fun c2 => ?_⟩
    · have hn : n2 = 0 := by omega
      subst hn
      cases hd2
      simpa only [nI_succ] using hk (n, j + 1, m1, _) ⟨by dsimp only; omega, hd⟩ (by dsimp only; omega)
    · obtain ⟨n2, rfl⟩ : ∃ n', n2 = n' + 1 := ⟨n2 - 1, by omega⟩
      rw [goO] at hd2
      obtain ⟨m3, hm3, hd2⟩ := Option.bind_eq_some_iff.mp hd2
      have hM := bM_n (show i < 32 by omega)
      have hk3 := hk2 (n2, i + 1, m3) ⟨by dsimp only; omega, hd2⟩ (by dsimp only; omega)
      simp only [nI_succ] at hk3
      simp only [fr_isChild, k_r2_2, hM, hS, and_self, if_true, tt_c, tt_lc, tt_il, tt_ll, tt_al, tt_is, tt_lsv, tt_as, tt_inc, tt_add, tt_sub, tt_mul, tt_and, tt_ladd, tt_lmul, tt_i2l, tt_lcmp, tt_dupr, tt_dup2, tt_eq0, tt_lt0, tt_le0, tt_ge0, tt_gt0, tt_eq2, tt_lt2, tt_ge2, tt_gt2, tt_le2, tt_gr, tt_gi, tt_pi, tt_gl, tt_pl, tt_ia, tt_st, tt_ir, tt_zr, tt_lr, tt_vr, tt_cv, tt_cs, tt_max, tt_min, tt_rem, tt_xor, tt_len, tt_cp, tt_thr, tt_xv, tt_xs, k_sv, k_cl, k_kz, List.getElem?_cons_zero, List.getElem?_cons_succ, List.drop_succ_cons, List.drop_zero, List.take_succ_cons, List.take_zero, List.reverse_cons, List.reverse_nil, List.nil_append, List.cons_append, List.length_cons, List.length_nil, Option.toList_some, Option.toList_none, Nat.reduceAdd, Nat.reduceLeDiff, true_and, and_true, sp_I, sp_II, sp_III, sp_J, sp_JI, sp_JJ, sp_R2, sp_R5I, sp_V, bI_0]
      refine ⟨fun c3 => ?_, fun c3 => ?_⟩
      · simp only [aaF, c3, Bool.false_eq_true, if_false] at hm3
        cases hm3
        exact hk3
      · simp only [Bool.not_eq_false] at c3
        simp only [aaF, c3, if_true] at hm3
        simp only [fr_attach, k_r2_2, hS, hm3, if_true, Option.map_some, k_r2_r, tt_c, tt_lc, tt_il, tt_ll, tt_al, tt_is, tt_lsv, tt_as, tt_inc, tt_add, tt_sub, tt_mul, tt_and, tt_ladd, tt_lmul, tt_i2l, tt_lcmp, tt_dupr, tt_dup2, tt_eq0, tt_lt0, tt_le0, tt_ge0, tt_gt0, tt_eq2, tt_lt2, tt_ge2, tt_gt2, tt_le2, tt_gr, tt_gi, tt_pi, tt_gl, tt_pl, tt_ia, tt_st, tt_ir, tt_zr, tt_lr, tt_vr, tt_cv, tt_cs, tt_max, tt_min, tt_rem, tt_xor, tt_len, tt_cp, tt_thr, tt_xv, tt_xs, k_sv, k_cl, k_kz, List.getElem?_cons_zero, List.getElem?_cons_succ, List.drop_succ_cons, List.drop_zero, List.take_succ_cons, List.take_zero, List.reverse_cons, List.reverse_nil, List.nil_append, List.cons_append, List.length_cons, List.length_nil, Option.toList_some, Option.toList_none, Nat.reduceAdd, Nat.reduceLeDiff, true_and, and_true, sp_I, sp_II, sp_III, sp_J, sp_JI, sp_JJ, sp_R2, sp_R5I, sp_V]
        exact hk3
def fr_orphans (s : Int32) (M : Mm) : Option Rs := fr_childrenIn (-1) s M
theorem pr_orphans (ad : Nat → Nat) (x0 : Int32) (M : Mm) (r : Rs) (h : fr_orphans x0 M = some r) : T_X4_orphans_0 ad r (sp_II fr_childrenIn) [some (.ref (ad 6)), some (.int x0)] [] M := by
  unfold fr_orphans fr_childrenIn at h
  split at h
  · next hs =>
    cases h
    simp only [T_X4_orphans_0, tt_c, tt_lc, tt_il, tt_ll, tt_al, tt_is, tt_lsv, tt_as, tt_inc, tt_add, tt_sub, tt_mul, tt_and, tt_ladd, tt_lmul, tt_i2l, tt_lcmp, tt_dupr, tt_dup2, tt_eq0, tt_lt0, tt_le0, tt_ge0, tt_gt0, tt_eq2, tt_lt2, tt_ge2, tt_gt2, tt_le2, tt_gr, tt_gi, tt_pi, tt_gl, tt_pl, tt_ia, tt_st, tt_ir, tt_zr, tt_lr, tt_vr, tt_cv, tt_cs, tt_max, tt_min, tt_rem, tt_xor, tt_len, tt_cp, tt_thr, tt_xv, tt_xs, k_sv, k_cl, k_kz, List.getElem?_cons_zero, List.getElem?_cons_succ, List.drop_succ_cons, List.drop_zero, List.take_succ_cons, List.take_zero, List.reverse_cons, List.reverse_nil, List.nil_append, List.cons_append, List.length_cons, List.length_nil, Option.toList_some, Option.toList_none, Nat.reduceAdd, Nat.reduceLeDiff, true_and, and_true, sp_I, sp_II, sp_III, sp_J, sp_JI, sp_JJ, sp_R2, sp_R5I, sp_V, fr_childrenIn, hs, if_true]
  · cases h
def cuO (a s most : Int32) : Nat → Re → Option Re
  | 0, _ => none
  | n + 1, m => if ciR m a s ≤ most then some m else if bM (lrR m a s) = false then cuO a s most n (upR m (lrR m a s) (8 + s) (-1)) else none
def fr_cut (a s most : Int32) (M : Mm) : Option Rs := if bS s = false then (cuO a s most 40 (M.1 2)).map (fun m => .inl (none, k_r2 M m)) else none
theorem pr_cut (ad : Nat → Nat) (x0 x1 x2 : Int32) (M : Mm) (r : Rs) (h : fr_cut x0 x1 x2 M = some r) : T_X4_cut_0 ad r (sp_II fr_childrenIn) (sp_II fr_lastChild) (sp_III fr_put) [some (.ref (ad 6)), some (.int x0), some (.int x1), some (.int x2)] [] M := by
  unfold fr_cut at h
  split at h
  · next hs =>
    obtain ⟨mf, hmf, rfl⟩ := Option.map_eq_some_iff.mp h
    refine k_eqM (k_r2_s M) (lp_of (σ := Nat × Re) (fun q => cuO x0 x1 x2 q.1 q.2 = some mf) (fun q => [some (.ref (ad 6)), some (.int x0), some (.int x1), some (.int x2)]) (fun q => k_r2 M q.2) (fun q => q.1) ?_ (40, M.1 2) hmf)
    rintro k ⟨n, m⟩ hd hk
    dsimp only at hd
    cases n with
    | zero => cases hd
    | succ n =>
      rw [cuO] at hd
      simp only [tt_c, tt_lc, tt_il, tt_ll, tt_al, tt_is, tt_lsv, tt_as, tt_inc, tt_add, tt_sub, tt_mul, tt_and, tt_ladd, tt_lmul, tt_i2l, tt_lcmp, tt_dupr, tt_dup2, tt_eq0, tt_lt0, tt_le0, tt_ge0, tt_gt0, tt_eq2, tt_lt2, tt_ge2, tt_gt2, tt_le2, tt_gr, tt_gi, tt_pi, tt_gl, tt_pl, tt_ia, tt_st, tt_ir, tt_zr, tt_lr, tt_vr, tt_cv, tt_cs, tt_max, tt_min, tt_rem, tt_xor, tt_len, tt_cp, tt_thr, tt_xv, tt_xs, k_sv, k_cl, k_kz, List.getElem?_cons_zero, List.getElem?_cons_succ, List.drop_succ_cons, List.drop_zero, List.take_succ_cons, List.take_zero, List.reverse_cons, List.reverse_nil, List.nil_append, List.cons_append, List.length_cons, List.length_nil, Option.toList_some, Option.toList_none, Nat.reduceAdd, Nat.reduceLeDiff, true_and, and_true, sp_I, sp_II, sp_III, sp_J, sp_JI, sp_JJ, sp_R2, sp_R5I, sp_V, fr_childrenIn, k_r2_2, hs, if_true]
      refine ⟨fun c1 => ?_, fun c1 => ?_⟩
      · rw [if_pos c1] at hd
        cases hd
        rfl
      · rw [if_neg c1] at hd
        split at hd
        · next hb =>
          simp only [fr_lastChild, fr_put, k_r2_2, k_r2_r, hs, hb, bW_8 hs, and_self, if_true, tt_c, tt_lc, tt_il, tt_ll, tt_al, tt_is, tt_lsv, tt_as, tt_inc, tt_add, tt_sub, tt_mul, tt_and, tt_ladd, tt_lmul, tt_i2l, tt_lcmp, tt_dupr, tt_dup2, tt_eq0, tt_lt0, tt_le0, tt_ge0, tt_gt0, tt_eq2, tt_lt2, tt_ge2, tt_gt2, tt_le2, tt_gr, tt_gi, tt_pi, tt_gl, tt_pl, tt_ia, tt_st, tt_ir, tt_zr, tt_lr, tt_vr, tt_cv, tt_cs, tt_max, tt_min, tt_rem, tt_xor, tt_len, tt_cp, tt_thr, tt_xv, tt_xs, k_sv, k_cl, k_kz, List.getElem?_cons_zero, List.getElem?_cons_succ, List.drop_succ_cons, List.drop_zero, List.take_succ_cons, List.take_zero, List.reverse_cons, List.reverse_nil, List.nil_append, List.cons_append, List.length_cons, List.length_nil, Option.toList_some, Option.toList_none, Nat.reduceAdd, Nat.reduceLeDiff, true_and, and_true, sp_I, sp_II, sp_III, sp_J, sp_JI, sp_JJ, sp_R2, sp_R5I, sp_V]
          exact hk (n, upR m (lrR m x0 x1) (8 + x1) (-1)) hd (by dsimp only; omega)
        · cases hd
  · cases h
/-- a member goes: its children are let go, its values are zeroed -/
def gcF (x : Int32) (s y : Nat) (m : Re) : Re := if icR m (nI y) x (nI s) = true then upR m (nI y) (8 + nI s) (-1) else m
def gcR (x : Int32) (s : Nat) (m : Re) : Re := fold2 (gcF x s) m 32
def zeF (x : Int32) (k : Nat) (m : Re) : Re := upR m x (nI k) 0
def zeR (m : Re) (x : Int32) : Re := fold2 (zeF x) m 12
def goR (m : Re) (x : Int32) : Re := zeR (fold2 (gcR x) m 4) x
def fr_goes (x : Int32) (M : Mm) : Option Rs := if bM x = false then (aaO (goR (M.1 2) x)).map (fun m => .inl (none, k_r2 M m)) else none
theorem ge12 {j : Nat} (hj : j ≤ 12) : (12 : Int32) ≤ nI j ↔ j = 12 := by
  rw [show (12 : Int32) = nI 12 from rfl, nI_leI (by omega) (by omega)]
  omega
theorem pr_goes (ad : Nat → Nat) (x0 : Int32) (M : Mm) (r : Rs) (h : fr_goes x0 M = some r) : T_X4_goes_0 ad r (sp_V fr_attachAll) (sp_III fr_isChild) (sp_III fr_put) [some (.ref (ad 6)), some (.int x0), none, none] [] M := by
  unfold fr_goes at h
  split at h
  · next hx =>
    obtain ⟨mf, hmf, rfl⟩ := Option.map_eq_some_iff.mp h
    simp only [T_X4_goes_0, tt_c, tt_lc, tt_il, tt_ll, tt_al, tt_is, tt_lsv, tt_as, tt_inc, tt_add, tt_sub, tt_mul, tt_and, tt_ladd, tt_lmul, tt_i2l, tt_lcmp, tt_dupr, tt_dup2, tt_eq0, tt_lt0, tt_le0, tt_ge0, tt_gt0, tt_eq2, tt_lt2, tt_ge2, tt_gt2, tt_le2, tt_gr, tt_gi, tt_pi, tt_gl, tt_pl, tt_ia, tt_st, tt_ir, tt_zr, tt_lr, tt_vr, tt_cv, tt_cs, tt_max, tt_min, tt_rem, tt_xor, tt_len, tt_cp, tt_thr, tt_xv, tt_xs, k_sv, k_cl, k_kz, List.getElem?_cons_zero, List.getElem?_cons_succ, List.drop_succ_cons, List.drop_zero, List.take_succ_cons, List.take_zero, List.reverse_cons, List.reverse_nil, List.nil_append, List.cons_append, List.length_cons, List.length_nil, Option.toList_some, Option.toList_none, Nat.reduceAdd, Nat.reduceLeDiff, true_and, and_true, sp_I, sp_II, sp_III, sp_J, sp_JI, sp_JJ, sp_R2, sp_R5I, sp_V]
    refine k_eqM ((congrArg (k_r2 M) (fold2_0 (gcR x0) _)).trans (k_r2_s M)) (lp_of (σ := Nat × Option Value) (fun q => q.1 ≤ 4) (fun q => [some (.ref (ad 6)), some (.int x0), some (.int (nI q.1)), q.2]) (fun q => k_r2 M (fold2 (gcR x0) (M.1 2) q.1)) (fun q => 4 - q.1) ?_ (0, none) (by dsimp only; omega))
    rintro k ⟨j, o⟩ hj hk
    dsimp only at hj
    simp only [T_X4_goes_2, tt_c, tt_lc, tt_il, tt_ll, tt_al, tt_is, tt_lsv, tt_as, tt_inc, tt_add, tt_sub, tt_mul, tt_and, tt_ladd, tt_lmul, tt_i2l, tt_lcmp, tt_dupr, tt_dup2, tt_eq0, tt_lt0, tt_le0, tt_ge0, tt_gt0, tt_eq2, tt_lt2, tt_ge2, tt_gt2, tt_le2, tt_gr, tt_gi, tt_pi, tt_gl, tt_pl, tt_ia, tt_st, tt_ir, tt_zr, tt_lr, tt_vr, tt_cv, tt_cs, tt_max, tt_min, tt_rem, tt_xor, tt_len, tt_cp, tt_thr, tt_xv, tt_xs, k_sv, k_cl, k_kz, List.getElem?_cons_zero, List.getElem?_cons_succ, List.drop_succ_cons, List.drop_zero, List.take_succ_cons, List.take_zero, List.reverse_cons, List.reverse_nil, List.nil_append, List.cons_append, List.length_cons, List.length_nil, Option.toList_some, Option.toList_none, Nat.reduceAdd, Nat.reduceLeDiff, true_and, and_true, sp_I, sp_II, sp_III, sp_J, sp_JI, sp_JJ, sp_R2, sp_R5I, sp_V, ge4 hj]
    refine ⟨fun c1 => ?_, fun c1 => ?_⟩
    · subst c1
      refine k_eqM (congrArg (k_r2 M) (fold2_0 (zeF x0) _)) (lp_of (σ := Nat) (fun i => i ≤ 12) (fun i => [some (.ref (ad 6)), some (.int x0), some (.int (nI i)), o]) (fun i => k_r2 M (fold2 (zeF x0) (fold2 (gcR x0) (M.1 2) 4) i)) (fun i => 12 - i) ?_ 0 (by omega))
      intro k2 i hi hk2
      simp only [T_X4_goes_49, tt_c, tt_lc, tt_il, tt_ll, tt_al, tt_is, tt_lsv, tt_as, tt_inc, tt_add, tt_sub, tt_mul, tt_and, tt_ladd, tt_lmul, tt_i2l, tt_lcmp, tt_dupr, tt_dup2, tt_eq0, tt_lt0, tt_le0, tt_ge0, tt_gt0, tt_eq2, tt_lt2, tt_ge2, tt_gt2, tt_le2, tt_gr, tt_gi, tt_pi, tt_gl, tt_pl, tt_ia, tt_st, tt_ir, tt_zr, tt_lr, tt_vr, tt_cv, tt_cs, tt_max, tt_min, tt_rem, tt_xor, tt_len, tt_cp, tt_thr, tt_xv, tt_xs, k_sv, k_cl, k_kz, List.getElem?_cons_zero, List.getElem?_cons_succ, List.drop_succ_cons, List.drop_zero, List.take_succ_cons, List.take_zero, List.reverse_cons, List.reverse_nil, List.nil_append, List.cons_append, List.length_cons, List.length_nil, Option.toList_some, Option.toList_none, Nat.reduceAdd, Nat.reduceLeDiff, true_and, and_true, sp_I, sp_II, sp_III, sp_J, sp_JI, sp_JJ, sp_R2, sp_R5I, sp_V, ge12 hi]
      refine ⟨fun c2 => ?_, fun c2 => ?_⟩
      · subst c2
        have hmf' : aaO (fold2 (zeF x0) (fold2 (gcR x0) (M.1 2) 4) 12) = some mf := hmf
        simp only [fr_attachAll, k_r2_2, hmf', Option.map_some, k_r2_r, tt_c, tt_lc, tt_il, tt_ll, tt_al, tt_is, tt_lsv, tt_as, tt_inc, tt_add, tt_sub, tt_mul, tt_and, tt_ladd, tt_lmul, tt_i2l, tt_lcmp, tt_dupr, tt_dup2, tt_eq0, tt_lt0, tt_le0, tt_ge0, tt_gt0, tt_eq2, tt_lt2, tt_ge2, tt_gt2, tt_le2, tt_gr, tt_gi, tt_pi, tt_gl, tt_pl, tt_ia, tt_st, tt_ir, tt_zr, tt_lr, tt_vr, tt_cv, tt_cs, tt_max, tt_min, tt_rem, tt_xor, tt_len, tt_cp, tt_thr, tt_xv, tt_xs, k_sv, k_cl, k_kz, List.getElem?_cons_zero, List.getElem?_cons_succ, List.drop_succ_cons, List.drop_zero, List.take_succ_cons, List.take_zero, List.reverse_cons, List.reverse_nil, List.nil_append, List.cons_append, List.length_cons, List.length_nil, Option.toList_some, Option.toList_none, Nat.reduceAdd, Nat.reduceLeDiff, true_and, and_true, sp_I, sp_II, sp_III, sp_J, sp_JI, sp_JJ, sp_R2, sp_R5I, sp_V]
      · simp only [fr_put, k_r2_2, k_r2_r, hx, bW_n (show i < 12 by omega), and_self, if_true, tt_c, tt_lc, tt_il, tt_ll, tt_al, tt_is, tt_lsv, tt_as, tt_inc, tt_add, tt_sub, tt_mul, tt_and, tt_ladd, tt_lmul, tt_i2l, tt_lcmp, tt_dupr, tt_dup2, tt_eq0, tt_lt0, tt_le0, tt_ge0, tt_gt0, tt_eq2, tt_lt2, tt_ge2, tt_gt2, tt_le2, tt_gr, tt_gi, tt_pi, tt_gl, tt_pl, tt_ia, tt_st, tt_ir, tt_zr, tt_lr, tt_vr, tt_cv, tt_cs, tt_max, tt_min, tt_rem, tt_xor, tt_len, tt_cp, tt_thr, tt_xv, tt_xs, k_sv, k_cl, k_kz, List.getElem?_cons_zero, List.getElem?_cons_succ, List.drop_succ_cons, List.drop_zero, List.take_succ_cons, List.take_zero, List.reverse_cons, List.reverse_nil, List.nil_append, List.cons_append, List.length_cons, List.length_nil, Option.toList_some, Option.toList_none, Nat.reduceAdd, Nat.reduceLeDiff, true_and, and_true, sp_I, sp_II, sp_III, sp_J, sp_JI, sp_JJ, sp_R2, sp_R5I, sp_V]
        have := hk2 (i + 1) (by omega) (by omega)
        rw [fold2_s, nI_succ] at this
        exact this
    · have hS := bS_n (show j < 4 by omega)
      refine k_eqM (congrArg (k_r2 M) (fold2_0 (gcF x0 j) _)) (lp_of (σ := Nat) (fun i => i ≤ 32) (fun i => [some (.ref (ad 6)), some (.int x0), some (.int (nI j)), some (.int (nI i))]) (fun i => k_r2 M (fold2 (gcF x0 j) (fold2 (gcR x0) (M.1 2) j) i)) (fun i => 32 - i) ?_ 0 (by omega))
      intro k2 i hi hk2
      simp only [T_X4_goes_9, T_X4_goes_35, tt_c, tt_lc, tt_il, tt_ll, tt_al, tt_is, tt_lsv, tt_as, tt_inc, tt_add, tt_sub, tt_mul, tt_and, tt_ladd, tt_lmul, tt_i2l, tt_lcmp, tt_dupr, tt_dup2, tt_eq0, tt_lt0, tt_le0, tt_ge0, tt_gt0, tt_eq2, tt_lt2, tt_ge2, tt_gt2, tt_le2, tt_gr, tt_gi, tt_pi, tt_gl, tt_pl, tt_ia, tt_st, tt_ir, tt_zr, tt_lr, tt_vr, tt_cv, tt_cs, tt_max, tt_min, tt_rem, tt_xor, tt_len, tt_cp, tt_thr, tt_xv, tt_xs, k_sv, k_cl, k_kz, List.getElem?_cons_zero, List.getElem?_cons_succ, List.drop_succ_cons, List.drop_zero, List.take_succ_cons, List.take_zero, List.reverse_cons, List.reverse_nil, List.nil_append, List.cons_append, List.length_cons, List.length_nil, Option.toList_some, Option.toList_none, Nat.reduceAdd, Nat.reduceLeDiff, true_and, and_true, sp_I, sp_II, sp_III, sp_J, sp_JI, sp_JJ, sp_R2, sp_R5I, sp_V, ge32 hi]
      refine ⟨fun c2 => ?_, fun c2 => ?_⟩
      · subst c2
        have := hk (j + 1, some (.int (nI 32))) (by dsimp only; omega) (by dsimp only; omega)
        dsimp only at this
        rw [fold2_s, nI_succ] at this
        exact this
      · have hM := bM_n (show i < 32 by omega)
        have hk3 := hk2 (i + 1) (by omega) (by omega)
        rw [fold2_s, nI_succ] at hk3
        simp only [fr_isChild, k_r2_2, hM, hS, and_self, if_true, tt_c, tt_lc, tt_il, tt_ll, tt_al, tt_is, tt_lsv, tt_as, tt_inc, tt_add, tt_sub, tt_mul, tt_and, tt_ladd, tt_lmul, tt_i2l, tt_lcmp, tt_dupr, tt_dup2, tt_eq0, tt_lt0, tt_le0, tt_ge0, tt_gt0, tt_eq2, tt_lt2, tt_ge2, tt_gt2, tt_le2, tt_gr, tt_gi, tt_pi, tt_gl, tt_pl, tt_ia, tt_st, tt_ir, tt_zr, tt_lr, tt_vr, tt_cv, tt_cs, tt_max, tt_min, tt_rem, tt_xor, tt_len, tt_cp, tt_thr, tt_xv, tt_xs, k_sv, k_cl, k_kz, List.getElem?_cons_zero, List.getElem?_cons_succ, List.drop_succ_cons, List.drop_zero, List.take_succ_cons, List.take_zero, List.reverse_cons, List.reverse_nil, List.nil_append, List.cons_append, List.length_cons, List.length_nil, Option.toList_some, Option.toList_none, Nat.reduceAdd, Nat.reduceLeDiff, true_and, and_true, sp_I, sp_II, sp_III, sp_J, sp_JI, sp_JJ, sp_R2, sp_R5I, sp_V, bI_0]
        refine ⟨fun c3 => ?_, fun c3 => ?_⟩
        · simp only [gcF, c3, Bool.false_eq_true, if_false] at hk3
          exact hk3
        · simp only [Bool.not_eq_false] at c3
          simp only [gcF, c3, if_true] at hk3
          simp only [fr_put, k_r2_2, k_r2_r, hM, bW_8 hS, and_self, if_true, tt_c, tt_lc, tt_il, tt_ll, tt_al, tt_is, tt_lsv, tt_as, tt_inc, tt_add, tt_sub, tt_mul, tt_and, tt_ladd, tt_lmul, tt_i2l, tt_lcmp, tt_dupr, tt_dup2, tt_eq0, tt_lt0, tt_le0, tt_ge0, tt_gt0, tt_eq2, tt_lt2, tt_ge2, tt_gt2, tt_le2, tt_gr, tt_gi, tt_pi, tt_gl, tt_pl, tt_ia, tt_st, tt_ir, tt_zr, tt_lr, tt_vr, tt_cv, tt_cs, tt_max, tt_min, tt_rem, tt_xor, tt_len, tt_cp, tt_thr, tt_xv, tt_xs, k_sv, k_cl, k_kz, List.getElem?_cons_zero, List.getElem?_cons_succ, List.drop_succ_cons, List.drop_zero, List.take_succ_cons, List.take_zero, List.reverse_cons, List.reverse_nil, List.nil_append, List.cons_append, List.length_cons, List.length_nil, Option.toList_some, Option.toList_none, Nat.reduceAdd, Nat.reduceLeDiff, true_and, and_true, sp_I, sp_II, sp_III, sp_J, sp_JI, sp_JJ, sp_R2, sp_R5I, sp_V]
          exact hk3
  · cases h
