/-! printed by wip/p26/genlaw.py: the law's catching methods -/
theorem kc_RL_9 : k_wv RL 9 yX3_join cX3_join 4 (some .int) 3 := ⟨k_gm 396 (by decide +kernel) (by decide +kernel), k_gm 397 (by decide +kernel) (by decide +kernel), k_gm 398 (by decide +kernel) (by decide +kernel), k_gm 13 (by decide +kernel) (by decide +kernel), k_gm 399 (by decide +kernel) (by decide +kernel), by decide +kernel, by decide +kernel, by decide +kernel⟩
theorem kc_RL_21 : k_wv RL 21 yX3_leave cX3_leave 3 (some .int) 1 := ⟨k_gm 413 (by decide +kernel) (by decide +kernel), k_gm 414 (by decide +kernel) (by decide +kernel), k_gm 415 (by decide +kernel) (by decide +kernel), k_gm 13 (by decide +kernel) (by decide +kernel), k_gm 416 (by decide +kernel) (by decide +kernel), by decide +kernel, by decide +kernel, by decide +kernel⟩
theorem kc_RL_25 : k_wv RL 25 yX3_fail cX3_fail 3 (some .int) 1 := ⟨k_gm 428 (by decide +kernel) (by decide +kernel), k_gm 429 (by decide +kernel) (by decide +kernel), k_gm 430 (by decide +kernel) (by decide +kernel), k_gm 13 (by decide +kernel) (by decide +kernel), k_gm 431 (by decide +kernel) (by decide +kernel), by decide +kernel, by decide +kernel, by decide +kernel⟩
theorem kc_RL_28 : k_wv RL 28 yX3_setBound cX3_setBound 4 (some .int) 2 := ⟨k_gm 441 (by decide +kernel) (by decide +kernel), k_gm 442 (by decide +kernel) (by decide +kernel), k_gm 443 (by decide +kernel) (by decide +kernel), k_gm 13 (by decide +kernel) (by decide +kernel), k_gm 444 (by decide +kernel) (by decide +kernel), by decide +kernel, by decide +kernel, by decide +kernel⟩
theorem kc_RL_32 : k_wv RL 32 yX3_setSource cX3_setSource 4 (some .int) 1 := ⟨k_gm 449 (by decide +kernel) (by decide +kernel), k_gm 450 (by decide +kernel) (by decide +kernel), k_gm 451 (by decide +kernel) (by decide +kernel), k_gm 13 (by decide +kernel) (by decide +kernel), k_gm 452 (by decide +kernel) (by decide +kernel), by decide +kernel, by decide +kernel, by decide +kernel⟩
theorem kc_RL_35 : k_wv RL 35 yX3_setDelay cX3_setDelay 3 (some .int) 1 := ⟨k_gm 457 (by decide +kernel) (by decide +kernel), k_gm 458 (by decide +kernel) (by decide +kernel), k_gm 459 (by decide +kernel) (by decide +kernel), k_gm 13 (by decide +kernel) (by decide +kernel), k_gm 460 (by decide +kernel) (by decide +kernel), by decide +kernel, by decide +kernel, by decide +kernel⟩
theorem kc_RL_38 : k_wv RL 38 yX3_rejoin cX3_rejoin 3 (some .int) 2 := ⟨k_gm 464 (by decide +kernel) (by decide +kernel), k_gm 465 (by decide +kernel) (by decide +kernel), k_gm 466 (by decide +kernel) (by decide +kernel), k_gm 13 (by decide +kernel) (by decide +kernel), k_gm 467 (by decide +kernel) (by decide +kernel), by decide +kernel, by decide +kernel, by decide +kernel⟩
theorem kc_RL_41 : k_wv RL 41 yX3_tick cX3_tick 5 (some .int) 1 := ⟨k_gm 473 (by decide +kernel) (by decide +kernel), k_gm 474 (by decide +kernel) (by decide +kernel), k_gm 475 (by decide +kernel) (by decide +kernel), k_gm 13 (by decide +kernel) (by decide +kernel), k_gm 476 (by decide +kernel) (by decide +kernel), by decide +kernel, by decide +kernel, by decide +kernel⟩
theorem kc_RL_44 : k_wv RL 44 yX3_member cX3_member 3 (some .int) 2 := ⟨k_gm 547 (by decide +kernel) (by decide +kernel), k_gm 548 (by decide +kernel) (by decide +kernel), k_gm 549 (by decide +kernel) (by decide +kernel), k_gm 13 (by decide +kernel) (by decide +kernel), k_gm 550 (by decide +kernel) (by decide +kernel), by decide +kernel, by decide +kernel, by decide +kernel⟩
theorem kc_RL_47 : k_wv RL 47 yX3_parent cX3_parent 3 (some .int) 2 := ⟨k_gm 566 (by decide +kernel) (by decide +kernel), k_gm 567 (by decide +kernel) (by decide +kernel), k_gm 568 (by decide +kernel) (by decide +kernel), k_gm 13 (by decide +kernel) (by decide +kernel), k_gm 569 (by decide +kernel) (by decide +kernel), by decide +kernel, by decide +kernel, by decide +kernel⟩
theorem kc_RL_50 : k_wv RL 50 yX3_depth cX3_depth 3 (some .int) 2 := ⟨k_gm 580 (by decide +kernel) (by decide +kernel), k_gm 581 (by decide +kernel) (by decide +kernel), k_gm 582 (by decide +kernel) (by decide +kernel), k_gm 13 (by decide +kernel) (by decide +kernel), k_gm 583 (by decide +kernel) (by decide +kernel), by decide +kernel, by decide +kernel, by decide +kernel⟩
theorem kc_RL_53 : k_wv RL 53 yX3_child cX3_child 4 (some .int) 3 := ⟨k_gm 554 (by decide +kernel) (by decide +kernel), k_gm 555 (by decide +kernel) (by decide +kernel), k_gm 556 (by decide +kernel) (by decide +kernel), k_gm 13 (by decide +kernel) (by decide +kernel), k_gm 557 (by decide +kernel) (by decide +kernel), by decide +kernel, by decide +kernel, by decide +kernel⟩
theorem kc_RL_56 : k_wv RL 56 yX3_subtree cX3_subtree 3 (some .int) 2 := ⟨k_gm 573 (by decide +kernel) (by decide +kernel), k_gm 574 (by decide +kernel) (by decide +kernel), k_gm 575 (by decide +kernel) (by decide +kernel), k_gm 13 (by decide +kernel) (by decide +kernel), k_gm 576 (by decide +kernel) (by decide +kernel), by decide +kernel, by decide +kernel, by decide +kernel⟩
theorem kc_RL_59 : k_wv RL 59 yX3_hasRoom cX3_hasRoom 3 (some .boolean) 2 := ⟨k_gm 503 (by decide +kernel) (by decide +kernel), k_gm 504 (by decide +kernel) (by decide +kernel), k_gm 505 (by decide +kernel) (by decide +kernel), k_gm 13 (by decide +kernel) (by decide +kernel), k_gm 506 (by decide +kernel) (by decide +kernel), by decide +kernel, by decide +kernel, by decide +kernel⟩
theorem kc_RL_63 : k_wv RL 63 yX3_ranksBefore cX3_ranksBefore 4 (some .boolean) 3 := ⟨k_gm 601 (by decide +kernel) (by decide +kernel), k_gm 602 (by decide +kernel) (by decide +kernel), k_gm 603 (by decide +kernel) (by decide +kernel), k_gm 13 (by decide +kernel) (by decide +kernel), k_gm 604 (by decide +kernel) (by decide +kernel), by decide +kernel, by decide +kernel, by decide +kernel⟩
theorem kc_RL_67 : k_wv RL 67 yX3_harm cX3_harm 5 (some .int) 1 := ⟨k_gm 594 (by decide +kernel) (by decide +kernel), k_gm 220 (by decide +kernel) (by decide +kernel), k_gm 221 (by decide +kernel) (by decide +kernel), k_gm 13 (by decide +kernel) (by decide +kernel), k_gm 222 (by decide +kernel) (by decide +kernel), by decide +kernel, by decide +kernel, by decide +kernel⟩
theorem kc_RL_70 : k_wv RL 70 yX3_pieces cX3_pieces 2 (some .int) 1 := ⟨k_gm 587 (by decide +kernel) (by decide +kernel), k_gm 588 (by decide +kernel) (by decide +kernel), k_gm 589 (by decide +kernel) (by decide +kernel), k_gm 13 (by decide +kernel) (by decide +kernel), k_gm 590 (by decide +kernel) (by decide +kernel), by decide +kernel, by decide +kernel, by decide +kernel⟩
theorem kc_RL_73 : k_wv RL 73 yX3_stripe cX3_stripe 3 (some .int) 2 := ⟨k_gm 517 (by decide +kernel) (by decide +kernel), k_gm 336 (by decide +kernel) (by decide +kernel), k_gm 337 (by decide +kernel) (by decide +kernel), k_gm 13 (by decide +kernel) (by decide +kernel), k_gm 338 (by decide +kernel) (by decide +kernel), by decide +kernel, by decide +kernel, by decide +kernel⟩
theorem kc_RL_76 : k_wv RL 76 yX3_count cX3_count 2 (some .int) 1 := ⟨k_gm 521 (by decide +kernel) (by decide +kernel), k_gm 522 (by decide +kernel) (by decide +kernel), k_gm 523 (by decide +kernel) (by decide +kernel), k_gm 13 (by decide +kernel) (by decide +kernel), k_gm 524 (by decide +kernel) (by decide +kernel), by decide +kernel, by decide +kernel, by decide +kernel⟩
theorem kc_RL_79 : k_wv RL 79 yX3_undo cX3_undo 1 (some .int) 0 := ⟨k_gm 528 (by decide +kernel) (by decide +kernel), k_gm 529 (by decide +kernel) (by decide +kernel), k_gm 530 (by decide +kernel) (by decide +kernel), k_gm 13 (by decide +kernel) (by decide +kernel), k_gm 531 (by decide +kernel) (by decide +kernel), by decide +kernel, by decide +kernel, by decide +kernel⟩
abbrev hh_join : List (Nat × Nat × Nat × Nat) := [(0, 7, 8, 15), (0, 7, 14, 17), (0, 7, 20, 19)]
theorem fe_join (As : List Value) (M : Mm) (e : String × Mm) (h : sp_III f_join As M = some (.inr e)) : e.1 = k_IOE ∨ e.1 = k_IAE ∨ e.1 = k_ISE := by
  unfold sp_III at h
  split at h
  · simp only [f_join, q_ms] at h
    (repeat' split at h) <;> first | (cases h; done) | (cases h; simp)
  · cases h
def T_L_join (ad : Nat → Nat) (res : Rs) (F : Sp) : Tr := (tt_al 0 (tt_il 1 (tt_il 2 (tt_il 3 (tt_xc ad 0 3 F (tt_ir res) (tt_th [(k_IOE, (tt_as 4 (tt_c (-903) (tt_ir res)))), (k_IAE, (tt_as 4 (tt_c (-901) (tt_ir res)))), (k_ISE, (tt_as 4 (tt_c (-902) (tt_ir res))))]))))))
def TN_L_join (ad : Nat → Nat) (res : Rs) (F : Sp) : Tr := (tt_al 0 (tt_il 1 (tt_il 2 (tt_il 3 (tt_cv ad 0 3 F (tt_ir res))))))
theorem S_L_join {ad : Nat → Nat} {X : Cx} {res : Rs} (C : k_C ad X cL_join RL 5 8 166) (E : k_E ad (k_bump X) (some .int) res) (T : k_TW X hh_join) (h : kv_X3_join ad X (sp_III f_join)) (hx : kt_X3_join ad X (sp_III f_join)) : Sd ad X 0 (T_L_join ad res (sp_III f_join)) := by
  have Cb := k_Cb C T
  unfold T_L_join
  exact (ss_al0 C dL_join_0 rfl (ss_il0 C dL_join_1 rfl (ss_il0 C dL_join_2 rfl (ss_il0 C dL_join_3 rfl (ss_xc (hh := hh_join) k_rc0 C T dL_join_4 kc_RL_9 rfl h hx rfl (fun As M e h => by
    have hE := fe_join As M e h
    rcases hE with hE | hE | hE
    · rw [hE]
      exact ⟨[], ⟨0, 7, 8, 15⟩, [⟨0, 7, 14, 17⟩, ⟨0, 7, 20, 19⟩], rfl, (fun z hz => absurd hz List.not_mem_nil), by decide, by decide, (k_gm 393 (by decide +kernel) (by decide +kernel)), by decide, by rw [tt_th, if_pos rfl]; exact (ss_as Cb dL_join_8 (by decide) (ss_sp Cb dL_join_10 (by decide) (ss_ir Cb E dL_join_13)))⟩
    · rw [hE]
      exact ⟨[⟨0, 7, 8, 15⟩], ⟨0, 7, 14, 17⟩, [⟨0, 7, 20, 19⟩], rfl, (fun z hz => by
        simp only [List.mem_cons, List.not_mem_nil, or_false] at hz
        subst hz
        · exact Or.inr ⟨by decide, k_IOE, (k_gm 393 (by decide +kernel) (by decide +kernel)), by decide⟩), by decide, by decide, (k_gm 394 (by decide +kernel) (by decide +kernel)), by decide, by rw [tt_th, if_neg (by decide), tt_th, if_pos rfl]; exact (ss_as Cb dL_join_14 (by decide) (ss_sp Cb dL_join_16 (by decide) (ss_ir Cb E dL_join_19)))⟩
    · rw [hE]
      exact ⟨[⟨0, 7, 8, 15⟩, ⟨0, 7, 14, 17⟩], ⟨0, 7, 20, 19⟩, [], rfl, (fun z hz => by
        simp only [List.mem_cons, List.not_mem_nil, or_false] at hz
        rcases hz with rfl | rfl
        · exact Or.inr ⟨by decide, k_IOE, (k_gm 393 (by decide +kernel) (by decide +kernel)), by decide⟩
        · exact Or.inr ⟨by decide, k_IAE, (k_gm 394 (by decide +kernel) (by decide +kernel)), by decide⟩), by decide, by decide, (k_gm 395 (by decide +kernel) (by decide +kernel)), by decide, by rw [tt_th, if_neg (by decide), tt_th, if_neg (by decide), tt_th, if_pos rfl]; exact (ss_as Cb dL_join_20 (by decide) (ss_sp Cb dL_join_22 (by decide) (ss_ir Cb E dL_join_25)))⟩
    ) (ss_ir Cb E dL_join_7))))))
theorem SN_L_join {ad : Nat → Nat} {X : Cx} {res : Rs} (C : k_C ad X cL_join RL 5 8 166) (E : k_E ad X (some .int) res) (h : kv_X3_join ad X (sp_III f_join)) : Sd ad X 0 (TN_L_join ad res (sp_III f_join)) := by
  unfold TN_L_join
  exact (ss_al0 C dL_join_0 rfl (ss_il0 C dL_join_1 rfl (ss_il0 C dL_join_2 rfl (ss_il0 C dL_join_3 rfl (ss_cv k_rc0 C dL_join_4 kc_RL_9 rfl h rfl (ss_ir C E dL_join_7))))))
theorem pw_join (ad : Nat → Nat) (x0 : Int32) (x1 : Int32) (x2 : Int32) (M : Mm) (r : Rs) (h : wX [(k_IOE, (-903)), (k_IAE, (-901)), (k_ISE, (-902))] (f_join x0 x1 x2 M) = some r) : T_L_join ad r (sp_III f_join) [some (.ref (ad 0)), some (.int x0), some (.int x1), some (.int x2), none] [] M := by
  unfold wX at h
  split at h
  · next v M1 hF =>
    cases h
    simp only [T_L_join, tt_xc, tt_c, tt_lc, tt_il, tt_ll, tt_al, tt_is, tt_lsv, tt_as, tt_inc, tt_add, tt_sub, tt_mul, tt_and, tt_ladd, tt_lmul, tt_i2l, tt_lcmp, tt_dupr, tt_dup2, tt_eq0, tt_lt0, tt_le0, tt_ge0, tt_gt0, tt_eq2, tt_lt2, tt_ge2, tt_gt2, tt_le2, tt_gr, tt_gi, tt_pi, tt_gl, tt_pl, tt_ia, tt_st, tt_ir, tt_zr, tt_lr, tt_vr, tt_cv, tt_cs, tt_max, tt_min, tt_rem, tt_xor, tt_len, tt_cp, tt_thr, tt_xv, tt_xs, k_sv, k_cl, k_kz, List.getElem?_cons_zero, List.getElem?_cons_succ, List.drop_succ_cons, List.drop_zero, List.take_succ_cons, List.take_zero, List.reverse_cons, List.reverse_nil, List.nil_append, List.cons_append, List.length_cons, List.length_nil, Option.toList_some, Option.toList_none, Nat.reduceAdd, Nat.reduceLeDiff, true_and, and_true, sp_I, sp_II, sp_III, sp_JI, sp_JJ, sp_R2, sp_R5I, sp_V, hF]
  · next E M1 hF =>
    have hE : sp_III f_join [.int x0, .int x1, .int x2] M = some (.inr (E, M1)) := hF
    have hE := fe_join _ _ _ hE
    simp only [T_L_join, tt_xc, tt_c, tt_lc, tt_il, tt_ll, tt_al, tt_is, tt_lsv, tt_as, tt_inc, tt_add, tt_sub, tt_mul, tt_and, tt_ladd, tt_lmul, tt_i2l, tt_lcmp, tt_dupr, tt_dup2, tt_eq0, tt_lt0, tt_le0, tt_ge0, tt_gt0, tt_eq2, tt_lt2, tt_ge2, tt_gt2, tt_le2, tt_gr, tt_gi, tt_pi, tt_gl, tt_pl, tt_ia, tt_st, tt_ir, tt_zr, tt_lr, tt_vr, tt_cv, tt_cs, tt_max, tt_min, tt_rem, tt_xor, tt_len, tt_cp, tt_thr, tt_xv, tt_xs, k_sv, k_cl, k_kz, List.getElem?_cons_zero, List.getElem?_cons_succ, List.drop_succ_cons, List.drop_zero, List.take_succ_cons, List.take_zero, List.reverse_cons, List.reverse_nil, List.nil_append, List.cons_append, List.length_cons, List.length_nil, Option.toList_some, Option.toList_none, Nat.reduceAdd, Nat.reduceLeDiff, true_and, and_true, sp_I, sp_II, sp_III, sp_JI, sp_JJ, sp_R2, sp_R5I, sp_V, hF]
    intro q
    dsimp only at hE
    rcases hE with rfl | rfl | rfl
    · rw [wE, if_pos rfl] at h
      cases h
      rw [tt_th, if_pos rfl]
      simp only [tt_c, tt_lc, tt_il, tt_ll, tt_al, tt_is, tt_lsv, tt_as, tt_inc, tt_add, tt_sub, tt_mul, tt_and, tt_ladd, tt_lmul, tt_i2l, tt_lcmp, tt_dupr, tt_dup2, tt_eq0, tt_lt0, tt_le0, tt_ge0, tt_gt0, tt_eq2, tt_lt2, tt_ge2, tt_gt2, tt_le2, tt_gr, tt_gi, tt_pi, tt_gl, tt_pl, tt_ia, tt_st, tt_ir, tt_zr, tt_lr, tt_vr, tt_cv, tt_cs, tt_max, tt_min, tt_rem, tt_xor, tt_len, tt_cp, tt_thr, tt_xv, tt_xs, k_sv, k_cl, k_kz, List.getElem?_cons_zero, List.getElem?_cons_succ, List.drop_succ_cons, List.drop_zero, List.take_succ_cons, List.take_zero, List.reverse_cons, List.reverse_nil, List.nil_append, List.cons_append, List.length_cons, List.length_nil, Option.toList_some, Option.toList_none, Nat.reduceAdd, Nat.reduceLeDiff, true_and, and_true, sp_I, sp_II, sp_III, sp_JI, sp_JJ, sp_R2, sp_R5I, sp_V]
    · rw [wE, if_neg (show ¬ k_IAE = k_IOE by decide), wE, if_pos rfl] at h
      cases h
      rw [tt_th, if_neg (show ¬ k_IAE = k_IOE by decide), tt_th, if_pos rfl]
      simp only [tt_c, tt_lc, tt_il, tt_ll, tt_al, tt_is, tt_lsv, tt_as, tt_inc, tt_add, tt_sub, tt_mul, tt_and, tt_ladd, tt_lmul, tt_i2l, tt_lcmp, tt_dupr, tt_dup2, tt_eq0, tt_lt0, tt_le0, tt_ge0, tt_gt0, tt_eq2, tt_lt2, tt_ge2, tt_gt2, tt_le2, tt_gr, tt_gi, tt_pi, tt_gl, tt_pl, tt_ia, tt_st, tt_ir, tt_zr, tt_lr, tt_vr, tt_cv, tt_cs, tt_max, tt_min, tt_rem, tt_xor, tt_len, tt_cp, tt_thr, tt_xv, tt_xs, k_sv, k_cl, k_kz, List.getElem?_cons_zero, List.getElem?_cons_succ, List.drop_succ_cons, List.drop_zero, List.take_succ_cons, List.take_zero, List.reverse_cons, List.reverse_nil, List.nil_append, List.cons_append, List.length_cons, List.length_nil, Option.toList_some, Option.toList_none, Nat.reduceAdd, Nat.reduceLeDiff, true_and, and_true, sp_I, sp_II, sp_III, sp_JI, sp_JJ, sp_R2, sp_R5I, sp_V]
    · rw [wE, if_neg (show ¬ k_ISE = k_IOE by decide), wE, if_neg (show ¬ k_ISE = k_IAE by decide), wE, if_pos rfl] at h
      cases h
      rw [tt_th, if_neg (show ¬ k_ISE = k_IOE by decide), tt_th, if_neg (show ¬ k_ISE = k_IAE by decide), tt_th, if_pos rfl]
      simp only [tt_c, tt_lc, tt_il, tt_ll, tt_al, tt_is, tt_lsv, tt_as, tt_inc, tt_add, tt_sub, tt_mul, tt_and, tt_ladd, tt_lmul, tt_i2l, tt_lcmp, tt_dupr, tt_dup2, tt_eq0, tt_lt0, tt_le0, tt_ge0, tt_gt0, tt_eq2, tt_lt2, tt_ge2, tt_gt2, tt_le2, tt_gr, tt_gi, tt_pi, tt_gl, tt_pl, tt_ia, tt_st, tt_ir, tt_zr, tt_lr, tt_vr, tt_cv, tt_cs, tt_max, tt_min, tt_rem, tt_xor, tt_len, tt_cp, tt_thr, tt_xv, tt_xs, k_sv, k_cl, k_kz, List.getElem?_cons_zero, List.getElem?_cons_succ, List.drop_succ_cons, List.drop_zero, List.take_succ_cons, List.take_zero, List.reverse_cons, List.reverse_nil, List.nil_append, List.cons_append, List.length_cons, List.length_nil, Option.toList_some, Option.toList_none, Nat.reduceAdd, Nat.reduceLeDiff, true_and, and_true, sp_I, sp_II, sp_III, sp_JI, sp_JJ, sp_R2, sp_R5I, sp_V]
  · cases h
theorem pn_join (ad : Nat → Nat) (x0 : Int32) (x1 : Int32) (x2 : Int32) (M : Mm) (r : Rs) (h : wN (f_join x0 x1 x2 M) = some r) : TN_L_join ad r (sp_III f_join) [some (.ref (ad 0)), some (.int x0), some (.int x1), some (.int x2), none] [] M := by
  unfold wN at h
  split at h
  · next v M1 hF =>
    cases h
    simp only [TN_L_join, tt_c, tt_lc, tt_il, tt_ll, tt_al, tt_is, tt_lsv, tt_as, tt_inc, tt_add, tt_sub, tt_mul, tt_and, tt_ladd, tt_lmul, tt_i2l, tt_lcmp, tt_dupr, tt_dup2, tt_eq0, tt_lt0, tt_le0, tt_ge0, tt_gt0, tt_eq2, tt_lt2, tt_ge2, tt_gt2, tt_le2, tt_gr, tt_gi, tt_pi, tt_gl, tt_pl, tt_ia, tt_st, tt_ir, tt_zr, tt_lr, tt_vr, tt_cv, tt_cs, tt_max, tt_min, tt_rem, tt_xor, tt_len, tt_cp, tt_thr, tt_xv, tt_xs, k_sv, k_cl, k_kz, List.getElem?_cons_zero, List.getElem?_cons_succ, List.drop_succ_cons, List.drop_zero, List.take_succ_cons, List.take_zero, List.reverse_cons, List.reverse_nil, List.nil_append, List.cons_append, List.length_cons, List.length_nil, Option.toList_some, Option.toList_none, Nat.reduceAdd, Nat.reduceLeDiff, true_and, and_true, sp_I, sp_II, sp_III, sp_JI, sp_JJ, sp_R2, sp_R5I, sp_V, hF]
  · cases h
def sw_join (ad : Nat → Nat) : Sp := fun As M => match As with
  | [.ref a0, .int x0, .int x1, .int x2] => if a0 = ad 0 then wX [(k_IOE, (-903)), (k_IAE, (-901)), (k_ISE, (-902))] (f_join x0 x1 x2 M) else none
  | _ => none
def sn_join (ad : Nat → Nat) : Sp := fun As M => match As with
  | [.ref a0, .int x0, .int x1, .int x2] => if a0 = ad 0 then wN (f_join x0 x1 x2 M) else none
  | _ => none
theorem wr_join {l : Launch} {ad : Nat → Nat} {D : va_G} {cI cL : ClassId} (hI : k_I ad) (hf : l.stackTraces = false) : k_Wr l ad D cI cL yL_join cL_join 5 hh_join 8 166 (sw_join ad) :=
  k_wr (tree := fun r => T_L_join ad r (sp_III f_join)) hI (by decide +kernel) (fun X res hl hD C E T => S_L_join C E T (k_cvOf hl hD (cc_X3_join hI hf).1) (k_ctOf hl hD (cc_X3_join hI hf).2)) (fun As M r hF => by
    unfold sw_join at hF
    split at hF
    · split at hF
      · next hc =>
        obtain rfl := hc
        exact ⟨Nat.le_of_ble_eq_true rfl, _, k_inL rfl, pw_join ad _ _ _ M _ hF⟩
      · cases hF
    · cases hF)
theorem wn_join {l : Launch} {ad : Nat → Nat} {D : va_G} {cI cL : ClassId} (hI : k_I ad) (hf : l.stackTraces = false) : k_WrN l ad D cI cL yL_join cL_join 5 hh_join 8 166 (sn_join ad) :=
  k_wrN (tree := fun r => TN_L_join ad r (sp_III f_join)) hI (by decide +kernel) (fun X res hl hD C E => SN_L_join C E (k_cvOf hl hD (cc_X3_join hI hf).1)) (fun As M r hF => by
    unfold sn_join at hF
    split at hF
    · split at hF
      · next hc =>
        obtain rfl := hc
        exact ⟨Nat.le_of_ble_eq_true rfl, _, k_inL rfl, pn_join ad _ _ _ M _ hF⟩
      · cases hF
    · cases hF)
abbrev hh_leave : List (Nat × Nat × Nat × Nat) := [(0, 5, 6, 15), (0, 5, 11, 19)]
theorem fe_leave (As : List Value) (M : Mm) (e : String × Mm) (h : sp_I f_leave As M = some (.inr e)) : e.1 = k_IOE ∨ e.1 = k_ISE := by
  unfold sp_I at h
  split at h
  · simp only [f_leave, q_ms] at h
    (repeat' split at h) <;> first | (cases h; done) | (cases h; simp)
  · cases h
def T_L_leave (ad : Nat → Nat) (res : Rs) (F : Sp) : Tr := (tt_al 0 (tt_il 1 (tt_xc ad 0 1 F (tt_ir res) (tt_th [(k_IOE, (tt_as 2 (tt_c (-903) (tt_ir res)))), (k_ISE, (tt_as 2 (tt_c (-902) (tt_ir res))))]))))
def TN_L_leave (ad : Nat → Nat) (res : Rs) (F : Sp) : Tr := (tt_al 0 (tt_il 1 (tt_cv ad 0 1 F (tt_ir res))))
theorem S_L_leave {ad : Nat → Nat} {X : Cx} {res : Rs} (C : k_C ad X cL_leave RL 3 8 165) (E : k_E ad (k_bump X) (some .int) res) (T : k_TW X hh_leave) (h : kv_X3_leave ad X (sp_I f_leave)) (hx : kt_X3_leave ad X (sp_I f_leave)) : Sd ad X 0 (T_L_leave ad res (sp_I f_leave)) := by
  have Cb := k_Cb C T
  unfold T_L_leave
  exact (ss_al0 C dL_leave_0 rfl (ss_il0 C dL_leave_1 rfl (ss_xc (hh := hh_leave) k_rc0 C T dL_leave_2 kc_RL_21 rfl h hx rfl (fun As M e h => by
    have hE := fe_leave As M e h
    rcases hE with hE | hE
    · rw [hE]
      exact ⟨[], ⟨0, 5, 6, 15⟩, [⟨0, 5, 11, 19⟩], rfl, (fun z hz => absurd hz List.not_mem_nil), by decide, by decide, (k_gm 393 (by decide +kernel) (by decide +kernel)), by decide, by rw [tt_th, if_pos rfl]; exact (ss_as0 Cb dL_leave_6 rfl (by decide) (ss_sp Cb dL_leave_7 (by decide) (ss_ir Cb E dL_leave_10)))⟩
    · rw [hE]
      exact ⟨[⟨0, 5, 6, 15⟩], ⟨0, 5, 11, 19⟩, [], rfl, (fun z hz => by
        simp only [List.mem_cons, List.not_mem_nil, or_false] at hz
        subst hz
        · exact Or.inr ⟨by decide, k_IOE, (k_gm 393 (by decide +kernel) (by decide +kernel)), by decide⟩), by decide, by decide, (k_gm 395 (by decide +kernel) (by decide +kernel)), by decide, by rw [tt_th, if_neg (by decide), tt_th, if_pos rfl]; exact (ss_as0 Cb dL_leave_11 rfl (by decide) (ss_sp Cb dL_leave_12 (by decide) (ss_ir Cb E dL_leave_15)))⟩
    ) (ss_ir Cb E dL_leave_5))))
theorem SN_L_leave {ad : Nat → Nat} {X : Cx} {res : Rs} (C : k_C ad X cL_leave RL 3 8 165) (E : k_E ad X (some .int) res) (h : kv_X3_leave ad X (sp_I f_leave)) : Sd ad X 0 (TN_L_leave ad res (sp_I f_leave)) := by
  unfold TN_L_leave
  exact (ss_al0 C dL_leave_0 rfl (ss_il0 C dL_leave_1 rfl (ss_cv k_rc0 C dL_leave_2 kc_RL_21 rfl h rfl (ss_ir C E dL_leave_5))))
theorem pw_leave (ad : Nat → Nat) (x0 : Int32) (M : Mm) (r : Rs) (h : wX [(k_IOE, (-903)), (k_ISE, (-902))] (f_leave x0 M) = some r) : T_L_leave ad r (sp_I f_leave) [some (.ref (ad 0)), some (.int x0), none] [] M := by
  unfold wX at h
  split at h
  · next v M1 hF =>
    cases h
    simp only [T_L_leave, tt_xc, tt_c, tt_lc, tt_il, tt_ll, tt_al, tt_is, tt_lsv, tt_as, tt_inc, tt_add, tt_sub, tt_mul, tt_and, tt_ladd, tt_lmul, tt_i2l, tt_lcmp, tt_dupr, tt_dup2, tt_eq0, tt_lt0, tt_le0, tt_ge0, tt_gt0, tt_eq2, tt_lt2, tt_ge2, tt_gt2, tt_le2, tt_gr, tt_gi, tt_pi, tt_gl, tt_pl, tt_ia, tt_st, tt_ir, tt_zr, tt_lr, tt_vr, tt_cv, tt_cs, tt_max, tt_min, tt_rem, tt_xor, tt_len, tt_cp, tt_thr, tt_xv, tt_xs, k_sv, k_cl, k_kz, List.getElem?_cons_zero, List.getElem?_cons_succ, List.drop_succ_cons, List.drop_zero, List.take_succ_cons, List.take_zero, List.reverse_cons, List.reverse_nil, List.nil_append, List.cons_append, List.length_cons, List.length_nil, Option.toList_some, Option.toList_none, Nat.reduceAdd, Nat.reduceLeDiff, true_and, and_true, sp_I, sp_II, sp_III, sp_JI, sp_JJ, sp_R2, sp_R5I, sp_V, hF]
  · next E M1 hF =>
    have hE : sp_I f_leave [.int x0] M = some (.inr (E, M1)) := hF
    have hE := fe_leave _ _ _ hE
    simp only [T_L_leave, tt_xc, tt_c, tt_lc, tt_il, tt_ll, tt_al, tt_is, tt_lsv, tt_as, tt_inc, tt_add, tt_sub, tt_mul, tt_and, tt_ladd, tt_lmul, tt_i2l, tt_lcmp, tt_dupr, tt_dup2, tt_eq0, tt_lt0, tt_le0, tt_ge0, tt_gt0, tt_eq2, tt_lt2, tt_ge2, tt_gt2, tt_le2, tt_gr, tt_gi, tt_pi, tt_gl, tt_pl, tt_ia, tt_st, tt_ir, tt_zr, tt_lr, tt_vr, tt_cv, tt_cs, tt_max, tt_min, tt_rem, tt_xor, tt_len, tt_cp, tt_thr, tt_xv, tt_xs, k_sv, k_cl, k_kz, List.getElem?_cons_zero, List.getElem?_cons_succ, List.drop_succ_cons, List.drop_zero, List.take_succ_cons, List.take_zero, List.reverse_cons, List.reverse_nil, List.nil_append, List.cons_append, List.length_cons, List.length_nil, Option.toList_some, Option.toList_none, Nat.reduceAdd, Nat.reduceLeDiff, true_and, and_true, sp_I, sp_II, sp_III, sp_JI, sp_JJ, sp_R2, sp_R5I, sp_V, hF]
    intro q
    dsimp only at hE
    rcases hE with rfl | rfl
    · rw [wE, if_pos rfl] at h
      cases h
      rw [tt_th, if_pos rfl]
      simp only [tt_c, tt_lc, tt_il, tt_ll, tt_al, tt_is, tt_lsv, tt_as, tt_inc, tt_add, tt_sub, tt_mul, tt_and, tt_ladd, tt_lmul, tt_i2l, tt_lcmp, tt_dupr, tt_dup2, tt_eq0, tt_lt0, tt_le0, tt_ge0, tt_gt0, tt_eq2, tt_lt2, tt_ge2, tt_gt2, tt_le2, tt_gr, tt_gi, tt_pi, tt_gl, tt_pl, tt_ia, tt_st, tt_ir, tt_zr, tt_lr, tt_vr, tt_cv, tt_cs, tt_max, tt_min, tt_rem, tt_xor, tt_len, tt_cp, tt_thr, tt_xv, tt_xs, k_sv, k_cl, k_kz, List.getElem?_cons_zero, List.getElem?_cons_succ, List.drop_succ_cons, List.drop_zero, List.take_succ_cons, List.take_zero, List.reverse_cons, List.reverse_nil, List.nil_append, List.cons_append, List.length_cons, List.length_nil, Option.toList_some, Option.toList_none, Nat.reduceAdd, Nat.reduceLeDiff, true_and, and_true, sp_I, sp_II, sp_III, sp_JI, sp_JJ, sp_R2, sp_R5I, sp_V]
    · rw [wE, if_neg (show ¬ k_ISE = k_IOE by decide), wE, if_pos rfl] at h
      cases h
      rw [tt_th, if_neg (show ¬ k_ISE = k_IOE by decide), tt_th, if_pos rfl]
      simp only [tt_c, tt_lc, tt_il, tt_ll, tt_al, tt_is, tt_lsv, tt_as, tt_inc, tt_add, tt_sub, tt_mul, tt_and, tt_ladd, tt_lmul, tt_i2l, tt_lcmp, tt_dupr, tt_dup2, tt_eq0, tt_lt0, tt_le0, tt_ge0, tt_gt0, tt_eq2, tt_lt2, tt_ge2, tt_gt2, tt_le2, tt_gr, tt_gi, tt_pi, tt_gl, tt_pl, tt_ia, tt_st, tt_ir, tt_zr, tt_lr, tt_vr, tt_cv, tt_cs, tt_max, tt_min, tt_rem, tt_xor, tt_len, tt_cp, tt_thr, tt_xv, tt_xs, k_sv, k_cl, k_kz, List.getElem?_cons_zero, List.getElem?_cons_succ, List.drop_succ_cons, List.drop_zero, List.take_succ_cons, List.take_zero, List.reverse_cons, List.reverse_nil, List.nil_append, List.cons_append, List.length_cons, List.length_nil, Option.toList_some, Option.toList_none, Nat.reduceAdd, Nat.reduceLeDiff, true_and, and_true, sp_I, sp_II, sp_III, sp_JI, sp_JJ, sp_R2, sp_R5I, sp_V]
  · cases h
theorem pn_leave (ad : Nat → Nat) (x0 : Int32) (M : Mm) (r : Rs) (h : wN (f_leave x0 M) = some r) : TN_L_leave ad r (sp_I f_leave) [some (.ref (ad 0)), some (.int x0), none] [] M := by
  unfold wN at h
  split at h
  · next v M1 hF =>
    cases h
    simp only [TN_L_leave, tt_c, tt_lc, tt_il, tt_ll, tt_al, tt_is, tt_lsv, tt_as, tt_inc, tt_add, tt_sub, tt_mul, tt_and, tt_ladd, tt_lmul, tt_i2l, tt_lcmp, tt_dupr, tt_dup2, tt_eq0, tt_lt0, tt_le0, tt_ge0, tt_gt0, tt_eq2, tt_lt2, tt_ge2, tt_gt2, tt_le2, tt_gr, tt_gi, tt_pi, tt_gl, tt_pl, tt_ia, tt_st, tt_ir, tt_zr, tt_lr, tt_vr, tt_cv, tt_cs, tt_max, tt_min, tt_rem, tt_xor, tt_len, tt_cp, tt_thr, tt_xv, tt_xs, k_sv, k_cl, k_kz, List.getElem?_cons_zero, List.getElem?_cons_succ, List.drop_succ_cons, List.drop_zero, List.take_succ_cons, List.take_zero, List.reverse_cons, List.reverse_nil, List.nil_append, List.cons_append, List.length_cons, List.length_nil, Option.toList_some, Option.toList_none, Nat.reduceAdd, Nat.reduceLeDiff, true_and, and_true, sp_I, sp_II, sp_III, sp_JI, sp_JJ, sp_R2, sp_R5I, sp_V, hF]
  · cases h
def sw_leave (ad : Nat → Nat) : Sp := fun As M => match As with
  | [.ref a0, .int x0] => if a0 = ad 0 then wX [(k_IOE, (-903)), (k_ISE, (-902))] (f_leave x0 M) else none
  | _ => none
def sn_leave (ad : Nat → Nat) : Sp := fun As M => match As with
  | [.ref a0, .int x0] => if a0 = ad 0 then wN (f_leave x0 M) else none
  | _ => none
theorem wr_leave {l : Launch} {ad : Nat → Nat} {D : va_G} {cI cL : ClassId} (hI : k_I ad) (hf : l.stackTraces = false) : k_Wr l ad D cI cL yL_leave cL_leave 3 hh_leave 8 165 (sw_leave ad) :=
  k_wr (tree := fun r => T_L_leave ad r (sp_I f_leave)) hI (by decide +kernel) (fun X res hl hD C E T => S_L_leave C E T (k_cvOf hl hD (cc_X3_leave hI hf).1) (k_ctOf hl hD (cc_X3_leave hI hf).2)) (fun As M r hF => by
    unfold sw_leave at hF
    split at hF
    · split at hF
      · next hc =>
        obtain rfl := hc
        exact ⟨Nat.le_of_ble_eq_true rfl, _, k_inL rfl, pw_leave ad _ M _ hF⟩
      · cases hF
    · cases hF)
theorem wn_leave {l : Launch} {ad : Nat → Nat} {D : va_G} {cI cL : ClassId} (hI : k_I ad) (hf : l.stackTraces = false) : k_WrN l ad D cI cL yL_leave cL_leave 3 hh_leave 8 165 (sn_leave ad) :=
  k_wrN (tree := fun r => TN_L_leave ad r (sp_I f_leave)) hI (by decide +kernel) (fun X res hl hD C E => SN_L_leave C E (k_cvOf hl hD (cc_X3_leave hI hf).1)) (fun As M r hF => by
    unfold sn_leave at hF
    split at hF
    · split at hF
      · next hc =>
        obtain rfl := hc
        exact ⟨Nat.le_of_ble_eq_true rfl, _, k_inL rfl, pn_leave ad _ M _ hF⟩
      · cases hF
    · cases hF)
abbrev hh_fail : List (Nat × Nat × Nat × Nat) := [(0, 5, 6, 15), (0, 5, 11, 19)]
theorem fe_fail (As : List Value) (M : Mm) (e : String × Mm) (h : sp_I f_fail As M = some (.inr e)) : e.1 = k_IOE ∨ e.1 = k_ISE := by
  unfold sp_I at h
  split at h
  · simp only [f_fail, q_ms] at h
    (repeat' split at h) <;> first | (cases h; done) | (cases h; simp)
  · cases h
def T_L_fail (ad : Nat → Nat) (res : Rs) (F : Sp) : Tr := (tt_al 0 (tt_il 1 (tt_xc ad 0 1 F (tt_ir res) (tt_th [(k_IOE, (tt_as 2 (tt_c (-903) (tt_ir res)))), (k_ISE, (tt_as 2 (tt_c (-902) (tt_ir res))))]))))
def TN_L_fail (ad : Nat → Nat) (res : Rs) (F : Sp) : Tr := (tt_al 0 (tt_il 1 (tt_cv ad 0 1 F (tt_ir res))))
theorem S_L_fail {ad : Nat → Nat} {X : Cx} {res : Rs} (C : k_C ad X cL_fail RL 3 8 133) (E : k_E ad (k_bump X) (some .int) res) (T : k_TW X hh_fail) (h : kv_X3_fail ad X (sp_I f_fail)) (hx : kt_X3_fail ad X (sp_I f_fail)) : Sd ad X 0 (T_L_fail ad res (sp_I f_fail)) := by
  have Cb := k_Cb C T
  unfold T_L_fail
  exact (ss_al0 C dL_fail_0 rfl (ss_il0 C dL_fail_1 rfl (ss_xc (hh := hh_fail) k_rc0 C T dL_fail_2 kc_RL_25 rfl h hx rfl (fun As M e h => by
    have hE := fe_fail As M e h
    rcases hE with hE | hE
    · rw [hE]
      exact ⟨[], ⟨0, 5, 6, 15⟩, [⟨0, 5, 11, 19⟩], rfl, (fun z hz => absurd hz List.not_mem_nil), by decide, by decide, (k_gm 393 (by decide +kernel) (by decide +kernel)), by decide, by rw [tt_th, if_pos rfl]; exact (ss_as0 Cb dL_fail_6 rfl (by decide) (ss_sp Cb dL_fail_7 (by decide) (ss_ir Cb E dL_fail_10)))⟩
    · rw [hE]
      exact ⟨[⟨0, 5, 6, 15⟩], ⟨0, 5, 11, 19⟩, [], rfl, (fun z hz => by
        simp only [List.mem_cons, List.not_mem_nil, or_false] at hz
        subst hz
        · exact Or.inr ⟨by decide, k_IOE, (k_gm 393 (by decide +kernel) (by decide +kernel)), by decide⟩), by decide, by decide, (k_gm 395 (by decide +kernel) (by decide +kernel)), by decide, by rw [tt_th, if_neg (by decide), tt_th, if_pos rfl]; exact (ss_as0 Cb dL_fail_11 rfl (by decide) (ss_sp Cb dL_fail_12 (by decide) (ss_ir Cb E dL_fail_15)))⟩
    ) (ss_ir Cb E dL_fail_5))))
theorem SN_L_fail {ad : Nat → Nat} {X : Cx} {res : Rs} (C : k_C ad X cL_fail RL 3 8 133) (E : k_E ad X (some .int) res) (h : kv_X3_fail ad X (sp_I f_fail)) : Sd ad X 0 (TN_L_fail ad res (sp_I f_fail)) := by
  unfold TN_L_fail
  exact (ss_al0 C dL_fail_0 rfl (ss_il0 C dL_fail_1 rfl (ss_cv k_rc0 C dL_fail_2 kc_RL_25 rfl h rfl (ss_ir C E dL_fail_5))))
theorem pw_fail (ad : Nat → Nat) (x0 : Int32) (M : Mm) (r : Rs) (h : wX [(k_IOE, (-903)), (k_ISE, (-902))] (f_fail x0 M) = some r) : T_L_fail ad r (sp_I f_fail) [some (.ref (ad 0)), some (.int x0), none] [] M := by
  unfold wX at h
  split at h
  · next v M1 hF =>
    cases h
    simp only [T_L_fail, tt_xc, tt_c, tt_lc, tt_il, tt_ll, tt_al, tt_is, tt_lsv, tt_as, tt_inc, tt_add, tt_sub, tt_mul, tt_and, tt_ladd, tt_lmul, tt_i2l, tt_lcmp, tt_dupr, tt_dup2, tt_eq0, tt_lt0, tt_le0, tt_ge0, tt_gt0, tt_eq2, tt_lt2, tt_ge2, tt_gt2, tt_le2, tt_gr, tt_gi, tt_pi, tt_gl, tt_pl, tt_ia, tt_st, tt_ir, tt_zr, tt_lr, tt_vr, tt_cv, tt_cs, tt_max, tt_min, tt_rem, tt_xor, tt_len, tt_cp, tt_thr, tt_xv, tt_xs, k_sv, k_cl, k_kz, List.getElem?_cons_zero, List.getElem?_cons_succ, List.drop_succ_cons, List.drop_zero, List.take_succ_cons, List.take_zero, List.reverse_cons, List.reverse_nil, List.nil_append, List.cons_append, List.length_cons, List.length_nil, Option.toList_some, Option.toList_none, Nat.reduceAdd, Nat.reduceLeDiff, true_and, and_true, sp_I, sp_II, sp_III, sp_JI, sp_JJ, sp_R2, sp_R5I, sp_V, hF]
  · next E M1 hF =>
    have hE : sp_I f_fail [.int x0] M = some (.inr (E, M1)) := hF
    have hE := fe_fail _ _ _ hE
    simp only [T_L_fail, tt_xc, tt_c, tt_lc, tt_il, tt_ll, tt_al, tt_is, tt_lsv, tt_as, tt_inc, tt_add, tt_sub, tt_mul, tt_and, tt_ladd, tt_lmul, tt_i2l, tt_lcmp, tt_dupr, tt_dup2, tt_eq0, tt_lt0, tt_le0, tt_ge0, tt_gt0, tt_eq2, tt_lt2, tt_ge2, tt_gt2, tt_le2, tt_gr, tt_gi, tt_pi, tt_gl, tt_pl, tt_ia, tt_st, tt_ir, tt_zr, tt_lr, tt_vr, tt_cv, tt_cs, tt_max, tt_min, tt_rem, tt_xor, tt_len, tt_cp, tt_thr, tt_xv, tt_xs, k_sv, k_cl, k_kz, List.getElem?_cons_zero, List.getElem?_cons_succ, List.drop_succ_cons, List.drop_zero, List.take_succ_cons, List.take_zero, List.reverse_cons, List.reverse_nil, List.nil_append, List.cons_append, List.length_cons, List.length_nil, Option.toList_some, Option.toList_none, Nat.reduceAdd, Nat.reduceLeDiff, true_and, and_true, sp_I, sp_II, sp_III, sp_JI, sp_JJ, sp_R2, sp_R5I, sp_V, hF]
    intro q
    dsimp only at hE
    rcases hE with rfl | rfl
    · rw [wE, if_pos rfl] at h
      cases h
      rw [tt_th, if_pos rfl]
      simp only [tt_c, tt_lc, tt_il, tt_ll, tt_al, tt_is, tt_lsv, tt_as, tt_inc, tt_add, tt_sub, tt_mul, tt_and, tt_ladd, tt_lmul, tt_i2l, tt_lcmp, tt_dupr, tt_dup2, tt_eq0, tt_lt0, tt_le0, tt_ge0, tt_gt0, tt_eq2, tt_lt2, tt_ge2, tt_gt2, tt_le2, tt_gr, tt_gi, tt_pi, tt_gl, tt_pl, tt_ia, tt_st, tt_ir, tt_zr, tt_lr, tt_vr, tt_cv, tt_cs, tt_max, tt_min, tt_rem, tt_xor, tt_len, tt_cp, tt_thr, tt_xv, tt_xs, k_sv, k_cl, k_kz, List.getElem?_cons_zero, List.getElem?_cons_succ, List.drop_succ_cons, List.drop_zero, List.take_succ_cons, List.take_zero, List.reverse_cons, List.reverse_nil, List.nil_append, List.cons_append, List.length_cons, List.length_nil, Option.toList_some, Option.toList_none, Nat.reduceAdd, Nat.reduceLeDiff, true_and, and_true, sp_I, sp_II, sp_III, sp_JI, sp_JJ, sp_R2, sp_R5I, sp_V]
    · rw [wE, if_neg (show ¬ k_ISE = k_IOE by decide), wE, if_pos rfl] at h
      cases h
      rw [tt_th, if_neg (show ¬ k_ISE = k_IOE by decide), tt_th, if_pos rfl]
      simp only [tt_c, tt_lc, tt_il, tt_ll, tt_al, tt_is, tt_lsv, tt_as, tt_inc, tt_add, tt_sub, tt_mul, tt_and, tt_ladd, tt_lmul, tt_i2l, tt_lcmp, tt_dupr, tt_dup2, tt_eq0, tt_lt0, tt_le0, tt_ge0, tt_gt0, tt_eq2, tt_lt2, tt_ge2, tt_gt2, tt_le2, tt_gr, tt_gi, tt_pi, tt_gl, tt_pl, tt_ia, tt_st, tt_ir, tt_zr, tt_lr, tt_vr, tt_cv, tt_cs, tt_max, tt_min, tt_rem, tt_xor, tt_len, tt_cp, tt_thr, tt_xv, tt_xs, k_sv, k_cl, k_kz, List.getElem?_cons_zero, List.getElem?_cons_succ, List.drop_succ_cons, List.drop_zero, List.take_succ_cons, List.take_zero, List.reverse_cons, List.reverse_nil, List.nil_append, List.cons_append, List.length_cons, List.length_nil, Option.toList_some, Option.toList_none, Nat.reduceAdd, Nat.reduceLeDiff, true_and, and_true, sp_I, sp_II, sp_III, sp_JI, sp_JJ, sp_R2, sp_R5I, sp_V]
  · cases h
theorem pn_fail (ad : Nat → Nat) (x0 : Int32) (M : Mm) (r : Rs) (h : wN (f_fail x0 M) = some r) : TN_L_fail ad r (sp_I f_fail) [some (.ref (ad 0)), some (.int x0), none] [] M := by
  unfold wN at h
  split at h
  · next v M1 hF =>
    cases h
    simp only [TN_L_fail, tt_c, tt_lc, tt_il, tt_ll, tt_al, tt_is, tt_lsv, tt_as, tt_inc, tt_add, tt_sub, tt_mul, tt_and, tt_ladd, tt_lmul, tt_i2l, tt_lcmp, tt_dupr, tt_dup2, tt_eq0, tt_lt0, tt_le0, tt_ge0, tt_gt0, tt_eq2, tt_lt2, tt_ge2, tt_gt2, tt_le2, tt_gr, tt_gi, tt_pi, tt_gl, tt_pl, tt_ia, tt_st, tt_ir, tt_zr, tt_lr, tt_vr, tt_cv, tt_cs, tt_max, tt_min, tt_rem, tt_xor, tt_len, tt_cp, tt_thr, tt_xv, tt_xs, k_sv, k_cl, k_kz, List.getElem?_cons_zero, List.getElem?_cons_succ, List.drop_succ_cons, List.drop_zero, List.take_succ_cons, List.take_zero, List.reverse_cons, List.reverse_nil, List.nil_append, List.cons_append, List.length_cons, List.length_nil, Option.toList_some, Option.toList_none, Nat.reduceAdd, Nat.reduceLeDiff, true_and, and_true, sp_I, sp_II, sp_III, sp_JI, sp_JJ, sp_R2, sp_R5I, sp_V, hF]
  · cases h
def sw_fail (ad : Nat → Nat) : Sp := fun As M => match As with
  | [.ref a0, .int x0] => if a0 = ad 0 then wX [(k_IOE, (-903)), (k_ISE, (-902))] (f_fail x0 M) else none
  | _ => none
def sn_fail (ad : Nat → Nat) : Sp := fun As M => match As with
  | [.ref a0, .int x0] => if a0 = ad 0 then wN (f_fail x0 M) else none
  | _ => none
theorem wr_fail {l : Launch} {ad : Nat → Nat} {D : va_G} {cI cL : ClassId} (hI : k_I ad) (hf : l.stackTraces = false) : k_Wr l ad D cI cL yL_fail cL_fail 3 hh_fail 8 133 (sw_fail ad) :=
  k_wr (tree := fun r => T_L_fail ad r (sp_I f_fail)) hI (by decide +kernel) (fun X res hl hD C E T => S_L_fail C E T (k_cvOf hl hD (cc_X3_fail hI hf).1) (k_ctOf hl hD (cc_X3_fail hI hf).2)) (fun As M r hF => by
    unfold sw_fail at hF
    split at hF
    · split at hF
      · next hc =>
        obtain rfl := hc
        exact ⟨Nat.le_of_ble_eq_true rfl, _, k_inL rfl, pw_fail ad _ M _ hF⟩
      · cases hF
    · cases hF)
theorem wn_fail {l : Launch} {ad : Nat → Nat} {D : va_G} {cI cL : ClassId} (hI : k_I ad) (hf : l.stackTraces = false) : k_WrN l ad D cI cL yL_fail cL_fail 3 hh_fail 8 133 (sn_fail ad) :=
  k_wrN (tree := fun r => TN_L_fail ad r (sp_I f_fail)) hI (by decide +kernel) (fun X res hl hD C E => SN_L_fail C E (k_cvOf hl hD (cc_X3_fail hI hf).1)) (fun As M r hF => by
    unfold sn_fail at hF
    split at hF
    · split at hF
      · next hc =>
        obtain rfl := hc
        exact ⟨Nat.le_of_ble_eq_true rfl, _, k_inL rfl, pn_fail ad _ M _ hF⟩
      · cases hF
    · cases hF)
abbrev hh_setBound : List (Nat × Nat × Nat × Nat) := [(0, 6, 7, 15), (0, 6, 12, 17), (0, 6, 17, 19)]
theorem fe_setBound (As : List Value) (M : Mm) (e : String × Mm) (h : sp_II f_setBound As M = some (.inr e)) : e.1 = k_IOE ∨ e.1 = k_IAE ∨ e.1 = k_ISE := by
  unfold sp_II at h
  split at h
  · simp only [f_setBound, q_ms] at h
    (repeat' split at h) <;> first | (cases h; done) | (cases h; simp)
  · cases h
def T_L_setBound (ad : Nat → Nat) (res : Rs) (F : Sp) : Tr := (tt_al 0 (tt_il 1 (tt_il 2 (tt_xc ad 0 2 F (tt_ir res) (tt_th [(k_IOE, (tt_as 3 (tt_c (-903) (tt_ir res)))), (k_IAE, (tt_as 3 (tt_c (-901) (tt_ir res)))), (k_ISE, (tt_as 3 (tt_c (-902) (tt_ir res))))])))))
def TN_L_setBound (ad : Nat → Nat) (res : Rs) (F : Sp) : Tr := (tt_al 0 (tt_il 1 (tt_il 2 (tt_cv ad 0 2 F (tt_ir res)))))
theorem S_L_setBound {ad : Nat → Nat} {X : Cx} {res : Rs} (C : k_C ad X cL_setBound RL 4 8 166) (E : k_E ad (k_bump X) (some .int) res) (T : k_TW X hh_setBound) (h : kv_X3_setBound ad X (sp_II f_setBound)) (hx : kt_X3_setBound ad X (sp_II f_setBound)) : Sd ad X 0 (T_L_setBound ad res (sp_II f_setBound)) := by
  have Cb := k_Cb C T
  unfold T_L_setBound
  exact (ss_al0 C dL_setBound_0 rfl (ss_il0 C dL_setBound_1 rfl (ss_il0 C dL_setBound_2 rfl (ss_xc (hh := hh_setBound) k_rc0 C T dL_setBound_3 kc_RL_28 rfl h hx rfl (fun As M e h => by
    have hE := fe_setBound As M e h
    rcases hE with hE | hE | hE
    · rw [hE]
      exact ⟨[], ⟨0, 6, 7, 15⟩, [⟨0, 6, 12, 17⟩, ⟨0, 6, 17, 19⟩], rfl, (fun z hz => absurd hz List.not_mem_nil), by decide, by decide, (k_gm 393 (by decide +kernel) (by decide +kernel)), by decide, by rw [tt_th, if_pos rfl]; exact (ss_as0 Cb dL_setBound_7 rfl (by decide) (ss_sp Cb dL_setBound_8 (by decide) (ss_ir Cb E dL_setBound_11)))⟩
    · rw [hE]
      exact ⟨[⟨0, 6, 7, 15⟩], ⟨0, 6, 12, 17⟩, [⟨0, 6, 17, 19⟩], rfl, (fun z hz => by
        simp only [List.mem_cons, List.not_mem_nil, or_false] at hz
        subst hz
        · exact Or.inr ⟨by decide, k_IOE, (k_gm 393 (by decide +kernel) (by decide +kernel)), by decide⟩), by decide, by decide, (k_gm 394 (by decide +kernel) (by decide +kernel)), by decide, by rw [tt_th, if_neg (by decide), tt_th, if_pos rfl]; exact (ss_as0 Cb dL_setBound_12 rfl (by decide) (ss_sp Cb dL_setBound_13 (by decide) (ss_ir Cb E dL_setBound_16)))⟩
    · rw [hE]
      exact ⟨[⟨0, 6, 7, 15⟩, ⟨0, 6, 12, 17⟩], ⟨0, 6, 17, 19⟩, [], rfl, (fun z hz => by
        simp only [List.mem_cons, List.not_mem_nil, or_false] at hz
        rcases hz with rfl | rfl
        · exact Or.inr ⟨by decide, k_IOE, (k_gm 393 (by decide +kernel) (by decide +kernel)), by decide⟩
        · exact Or.inr ⟨by decide, k_IAE, (k_gm 394 (by decide +kernel) (by decide +kernel)), by decide⟩), by decide, by decide, (k_gm 395 (by decide +kernel) (by decide +kernel)), by decide, by rw [tt_th, if_neg (by decide), tt_th, if_neg (by decide), tt_th, if_pos rfl]; exact (ss_as0 Cb dL_setBound_17 rfl (by decide) (ss_sp Cb dL_setBound_18 (by decide) (ss_ir Cb E dL_setBound_21)))⟩
    ) (ss_ir Cb E dL_setBound_6)))))
theorem SN_L_setBound {ad : Nat → Nat} {X : Cx} {res : Rs} (C : k_C ad X cL_setBound RL 4 8 166) (E : k_E ad X (some .int) res) (h : kv_X3_setBound ad X (sp_II f_setBound)) : Sd ad X 0 (TN_L_setBound ad res (sp_II f_setBound)) := by
  unfold TN_L_setBound
  exact (ss_al0 C dL_setBound_0 rfl (ss_il0 C dL_setBound_1 rfl (ss_il0 C dL_setBound_2 rfl (ss_cv k_rc0 C dL_setBound_3 kc_RL_28 rfl h rfl (ss_ir C E dL_setBound_6)))))
theorem pw_setBound (ad : Nat → Nat) (x0 : Int32) (x1 : Int32) (M : Mm) (r : Rs) (h : wX [(k_IOE, (-903)), (k_IAE, (-901)), (k_ISE, (-902))] (f_setBound x0 x1 M) = some r) : T_L_setBound ad r (sp_II f_setBound) [some (.ref (ad 0)), some (.int x0), some (.int x1), none] [] M := by
  unfold wX at h
  split at h
  · next v M1 hF =>
    cases h
    simp only [T_L_setBound, tt_xc, tt_c, tt_lc, tt_il, tt_ll, tt_al, tt_is, tt_lsv, tt_as, tt_inc, tt_add, tt_sub, tt_mul, tt_and, tt_ladd, tt_lmul, tt_i2l, tt_lcmp, tt_dupr, tt_dup2, tt_eq0, tt_lt0, tt_le0, tt_ge0, tt_gt0, tt_eq2, tt_lt2, tt_ge2, tt_gt2, tt_le2, tt_gr, tt_gi, tt_pi, tt_gl, tt_pl, tt_ia, tt_st, tt_ir, tt_zr, tt_lr, tt_vr, tt_cv, tt_cs, tt_max, tt_min, tt_rem, tt_xor, tt_len, tt_cp, tt_thr, tt_xv, tt_xs, k_sv, k_cl, k_kz, List.getElem?_cons_zero, List.getElem?_cons_succ, List.drop_succ_cons, List.drop_zero, List.take_succ_cons, List.take_zero, List.reverse_cons, List.reverse_nil, List.nil_append, List.cons_append, List.length_cons, List.length_nil, Option.toList_some, Option.toList_none, Nat.reduceAdd, Nat.reduceLeDiff, true_and, and_true, sp_I, sp_II, sp_III, sp_JI, sp_JJ, sp_R2, sp_R5I, sp_V, hF]
  · next E M1 hF =>
    have hE : sp_II f_setBound [.int x0, .int x1] M = some (.inr (E, M1)) := hF
    have hE := fe_setBound _ _ _ hE
    simp only [T_L_setBound, tt_xc, tt_c, tt_lc, tt_il, tt_ll, tt_al, tt_is, tt_lsv, tt_as, tt_inc, tt_add, tt_sub, tt_mul, tt_and, tt_ladd, tt_lmul, tt_i2l, tt_lcmp, tt_dupr, tt_dup2, tt_eq0, tt_lt0, tt_le0, tt_ge0, tt_gt0, tt_eq2, tt_lt2, tt_ge2, tt_gt2, tt_le2, tt_gr, tt_gi, tt_pi, tt_gl, tt_pl, tt_ia, tt_st, tt_ir, tt_zr, tt_lr, tt_vr, tt_cv, tt_cs, tt_max, tt_min, tt_rem, tt_xor, tt_len, tt_cp, tt_thr, tt_xv, tt_xs, k_sv, k_cl, k_kz, List.getElem?_cons_zero, List.getElem?_cons_succ, List.drop_succ_cons, List.drop_zero, List.take_succ_cons, List.take_zero, List.reverse_cons, List.reverse_nil, List.nil_append, List.cons_append, List.length_cons, List.length_nil, Option.toList_some, Option.toList_none, Nat.reduceAdd, Nat.reduceLeDiff, true_and, and_true, sp_I, sp_II, sp_III, sp_JI, sp_JJ, sp_R2, sp_R5I, sp_V, hF]
    intro q
    dsimp only at hE
    rcases hE with rfl | rfl | rfl
    · rw [wE, if_pos rfl] at h
      cases h
      rw [tt_th, if_pos rfl]
      simp only [tt_c, tt_lc, tt_il, tt_ll, tt_al, tt_is, tt_lsv, tt_as, tt_inc, tt_add, tt_sub, tt_mul, tt_and, tt_ladd, tt_lmul, tt_i2l, tt_lcmp, tt_dupr, tt_dup2, tt_eq0, tt_lt0, tt_le0, tt_ge0, tt_gt0, tt_eq2, tt_lt2, tt_ge2, tt_gt2, tt_le2, tt_gr, tt_gi, tt_pi, tt_gl, tt_pl, tt_ia, tt_st, tt_ir, tt_zr, tt_lr, tt_vr, tt_cv, tt_cs, tt_max, tt_min, tt_rem, tt_xor, tt_len, tt_cp, tt_thr, tt_xv, tt_xs, k_sv, k_cl, k_kz, List.getElem?_cons_zero, List.getElem?_cons_succ, List.drop_succ_cons, List.drop_zero, List.take_succ_cons, List.take_zero, List.reverse_cons, List.reverse_nil, List.nil_append, List.cons_append, List.length_cons, List.length_nil, Option.toList_some, Option.toList_none, Nat.reduceAdd, Nat.reduceLeDiff, true_and, and_true, sp_I, sp_II, sp_III, sp_JI, sp_JJ, sp_R2, sp_R5I, sp_V]
    · rw [wE, if_neg (show ¬ k_IAE = k_IOE by decide), wE, if_pos rfl] at h
      cases h
      rw [tt_th, if_neg (show ¬ k_IAE = k_IOE by decide), tt_th, if_pos rfl]
      simp only [tt_c, tt_lc, tt_il, tt_ll, tt_al, tt_is, tt_lsv, tt_as, tt_inc, tt_add, tt_sub, tt_mul, tt_and, tt_ladd, tt_lmul, tt_i2l, tt_lcmp, tt_dupr, tt_dup2, tt_eq0, tt_lt0, tt_le0, tt_ge0, tt_gt0, tt_eq2, tt_lt2, tt_ge2, tt_gt2, tt_le2, tt_gr, tt_gi, tt_pi, tt_gl, tt_pl, tt_ia, tt_st, tt_ir, tt_zr, tt_lr, tt_vr, tt_cv, tt_cs, tt_max, tt_min, tt_rem, tt_xor, tt_len, tt_cp, tt_thr, tt_xv, tt_xs, k_sv, k_cl, k_kz, List.getElem?_cons_zero, List.getElem?_cons_succ, List.drop_succ_cons, List.drop_zero, List.take_succ_cons, List.take_zero, List.reverse_cons, List.reverse_nil, List.nil_append, List.cons_append, List.length_cons, List.length_nil, Option.toList_some, Option.toList_none, Nat.reduceAdd, Nat.reduceLeDiff, true_and, and_true, sp_I, sp_II, sp_III, sp_JI, sp_JJ, sp_R2, sp_R5I, sp_V]
    · rw [wE, if_neg (show ¬ k_ISE = k_IOE by decide), wE, if_neg (show ¬ k_ISE = k_IAE by decide), wE, if_pos rfl] at h
      cases h
      rw [tt_th, if_neg (show ¬ k_ISE = k_IOE by decide), tt_th, if_neg (show ¬ k_ISE = k_IAE by decide), tt_th, if_pos rfl]
      simp only [tt_c, tt_lc, tt_il, tt_ll, tt_al, tt_is, tt_lsv, tt_as, tt_inc, tt_add, tt_sub, tt_mul, tt_and, tt_ladd, tt_lmul, tt_i2l, tt_lcmp, tt_dupr, tt_dup2, tt_eq0, tt_lt0, tt_le0, tt_ge0, tt_gt0, tt_eq2, tt_lt2, tt_ge2, tt_gt2, tt_le2, tt_gr, tt_gi, tt_pi, tt_gl, tt_pl, tt_ia, tt_st, tt_ir, tt_zr, tt_lr, tt_vr, tt_cv, tt_cs, tt_max, tt_min, tt_rem, tt_xor, tt_len, tt_cp, tt_thr, tt_xv, tt_xs, k_sv, k_cl, k_kz, List.getElem?_cons_zero, List.getElem?_cons_succ, List.drop_succ_cons, List.drop_zero, List.take_succ_cons, List.take_zero, List.reverse_cons, List.reverse_nil, List.nil_append, List.cons_append, List.length_cons, List.length_nil, Option.toList_some, Option.toList_none, Nat.reduceAdd, Nat.reduceLeDiff, true_and, and_true, sp_I, sp_II, sp_III, sp_JI, sp_JJ, sp_R2, sp_R5I, sp_V]
  · cases h
theorem pn_setBound (ad : Nat → Nat) (x0 : Int32) (x1 : Int32) (M : Mm) (r : Rs) (h : wN (f_setBound x0 x1 M) = some r) : TN_L_setBound ad r (sp_II f_setBound) [some (.ref (ad 0)), some (.int x0), some (.int x1), none] [] M := by
  unfold wN at h
  split at h
  · next v M1 hF =>
    cases h
    simp only [TN_L_setBound, tt_c, tt_lc, tt_il, tt_ll, tt_al, tt_is, tt_lsv, tt_as, tt_inc, tt_add, tt_sub, tt_mul, tt_and, tt_ladd, tt_lmul, tt_i2l, tt_lcmp, tt_dupr, tt_dup2, tt_eq0, tt_lt0, tt_le0, tt_ge0, tt_gt0, tt_eq2, tt_lt2, tt_ge2, tt_gt2, tt_le2, tt_gr, tt_gi, tt_pi, tt_gl, tt_pl, tt_ia, tt_st, tt_ir, tt_zr, tt_lr, tt_vr, tt_cv, tt_cs, tt_max, tt_min, tt_rem, tt_xor, tt_len, tt_cp, tt_thr, tt_xv, tt_xs, k_sv, k_cl, k_kz, List.getElem?_cons_zero, List.getElem?_cons_succ, List.drop_succ_cons, List.drop_zero, List.take_succ_cons, List.take_zero, List.reverse_cons, List.reverse_nil, List.nil_append, List.cons_append, List.length_cons, List.length_nil, Option.toList_some, Option.toList_none, Nat.reduceAdd, Nat.reduceLeDiff, true_and, and_true, sp_I, sp_II, sp_III, sp_JI, sp_JJ, sp_R2, sp_R5I, sp_V, hF]
  · cases h
def sw_setBound (ad : Nat → Nat) : Sp := fun As M => match As with
  | [.ref a0, .int x0, .int x1] => if a0 = ad 0 then wX [(k_IOE, (-903)), (k_IAE, (-901)), (k_ISE, (-902))] (f_setBound x0 x1 M) else none
  | _ => none
def sn_setBound (ad : Nat → Nat) : Sp := fun As M => match As with
  | [.ref a0, .int x0, .int x1] => if a0 = ad 0 then wN (f_setBound x0 x1 M) else none
  | _ => none
theorem wr_setBound {l : Launch} {ad : Nat → Nat} {D : va_G} {cI cL : ClassId} (hI : k_I ad) (hf : l.stackTraces = false) : k_Wr l ad D cI cL yL_setBound cL_setBound 4 hh_setBound 8 166 (sw_setBound ad) :=
  k_wr (tree := fun r => T_L_setBound ad r (sp_II f_setBound)) hI (by decide +kernel) (fun X res hl hD C E T => S_L_setBound C E T (k_cvOf hl hD (cc_X3_setBound hI hf).1) (k_ctOf hl hD (cc_X3_setBound hI hf).2)) (fun As M r hF => by
    unfold sw_setBound at hF
    split at hF
    · split at hF
      · next hc =>
        obtain rfl := hc
        exact ⟨Nat.le_of_ble_eq_true rfl, _, k_inL rfl, pw_setBound ad _ _ M _ hF⟩
      · cases hF
    · cases hF)
theorem wn_setBound {l : Launch} {ad : Nat → Nat} {D : va_G} {cI cL : ClassId} (hI : k_I ad) (hf : l.stackTraces = false) : k_WrN l ad D cI cL yL_setBound cL_setBound 4 hh_setBound 8 166 (sn_setBound ad) :=
  k_wrN (tree := fun r => TN_L_setBound ad r (sp_II f_setBound)) hI (by decide +kernel) (fun X res hl hD C E => SN_L_setBound C E (k_cvOf hl hD (cc_X3_setBound hI hf).1)) (fun As M r hF => by
    unfold sn_setBound at hF
    split at hF
    · split at hF
      · next hc =>
        obtain rfl := hc
        exact ⟨Nat.le_of_ble_eq_true rfl, _, k_inL rfl, pn_setBound ad _ _ M _ hF⟩
      · cases hF
    · cases hF)
abbrev hh_setSource : List (Nat × Nat × Nat × Nat) := [(0, 5, 6, 17)]
theorem fe_setSource (As : List Value) (M : Mm) (e : String × Mm) (h : sp_I f_setSource As M = some (.inr e)) : e.1 = k_IAE := by
  unfold sp_I at h
  split at h
  · simp only [f_setSource, q_ms] at h
    (repeat' split at h) <;> first | (cases h; done) | (cases h; simp)
  · cases h
def T_L_setSource (ad : Nat → Nat) (res : Rs) (F : Sp) : Tr := (tt_al 0 (tt_il 1 (tt_xc ad 0 1 F (tt_ir res) (tt_th [(k_IAE, (tt_as 2 (tt_c (-901) (tt_ir res))))]))))
def TN_L_setSource (ad : Nat → Nat) (res : Rs) (F : Sp) : Tr := (tt_al 0 (tt_il 1 (tt_cv ad 0 1 F (tt_ir res))))
theorem S_L_setSource {ad : Nat → Nat} {X : Cx} {res : Rs} (C : k_C ad X cL_setSource RL 3 8 166) (E : k_E ad (k_bump X) (some .int) res) (T : k_TW X hh_setSource) (h : kv_X3_setSource ad X (sp_I f_setSource)) (hx : kt_X3_setSource ad X (sp_I f_setSource)) : Sd ad X 0 (T_L_setSource ad res (sp_I f_setSource)) := by
  have Cb := k_Cb C T
  unfold T_L_setSource
  exact (ss_al0 C dL_setSource_0 rfl (ss_il0 C dL_setSource_1 rfl (ss_xc (hh := hh_setSource) k_rc0 C T dL_setSource_2 kc_RL_32 rfl h hx rfl (fun As M e h => by
    have hE := fe_setSource As M e h
    skip
    · rw [hE]
      exact ⟨[], ⟨0, 5, 6, 17⟩, [], rfl, (fun z hz => absurd hz List.not_mem_nil), by decide, by decide, (k_gm 394 (by decide +kernel) (by decide +kernel)), by decide, by rw [tt_th, if_pos rfl]; exact (ss_as0 Cb dL_setSource_6 rfl (by decide) (ss_sp Cb dL_setSource_7 (by decide) (ss_ir Cb E dL_setSource_10)))⟩
    ) (ss_ir Cb E dL_setSource_5))))
theorem SN_L_setSource {ad : Nat → Nat} {X : Cx} {res : Rs} (C : k_C ad X cL_setSource RL 3 8 166) (E : k_E ad X (some .int) res) (h : kv_X3_setSource ad X (sp_I f_setSource)) : Sd ad X 0 (TN_L_setSource ad res (sp_I f_setSource)) := by
  unfold TN_L_setSource
  exact (ss_al0 C dL_setSource_0 rfl (ss_il0 C dL_setSource_1 rfl (ss_cv k_rc0 C dL_setSource_2 kc_RL_32 rfl h rfl (ss_ir C E dL_setSource_5))))
theorem pw_setSource (ad : Nat → Nat) (x0 : Int32) (M : Mm) (r : Rs) (h : wX [(k_IAE, (-901))] (f_setSource x0 M) = some r) : T_L_setSource ad r (sp_I f_setSource) [some (.ref (ad 0)), some (.int x0), none] [] M := by
  unfold wX at h
  split at h
  · next v M1 hF =>
    cases h
    simp only [T_L_setSource, tt_xc, tt_c, tt_lc, tt_il, tt_ll, tt_al, tt_is, tt_lsv, tt_as, tt_inc, tt_add, tt_sub, tt_mul, tt_and, tt_ladd, tt_lmul, tt_i2l, tt_lcmp, tt_dupr, tt_dup2, tt_eq0, tt_lt0, tt_le0, tt_ge0, tt_gt0, tt_eq2, tt_lt2, tt_ge2, tt_gt2, tt_le2, tt_gr, tt_gi, tt_pi, tt_gl, tt_pl, tt_ia, tt_st, tt_ir, tt_zr, tt_lr, tt_vr, tt_cv, tt_cs, tt_max, tt_min, tt_rem, tt_xor, tt_len, tt_cp, tt_thr, tt_xv, tt_xs, k_sv, k_cl, k_kz, List.getElem?_cons_zero, List.getElem?_cons_succ, List.drop_succ_cons, List.drop_zero, List.take_succ_cons, List.take_zero, List.reverse_cons, List.reverse_nil, List.nil_append, List.cons_append, List.length_cons, List.length_nil, Option.toList_some, Option.toList_none, Nat.reduceAdd, Nat.reduceLeDiff, true_and, and_true, sp_I, sp_II, sp_III, sp_JI, sp_JJ, sp_R2, sp_R5I, sp_V, hF]
  · next E M1 hF =>
    have hE : sp_I f_setSource [.int x0] M = some (.inr (E, M1)) := hF
    have hE := fe_setSource _ _ _ hE
    simp only [T_L_setSource, tt_xc, tt_c, tt_lc, tt_il, tt_ll, tt_al, tt_is, tt_lsv, tt_as, tt_inc, tt_add, tt_sub, tt_mul, tt_and, tt_ladd, tt_lmul, tt_i2l, tt_lcmp, tt_dupr, tt_dup2, tt_eq0, tt_lt0, tt_le0, tt_ge0, tt_gt0, tt_eq2, tt_lt2, tt_ge2, tt_gt2, tt_le2, tt_gr, tt_gi, tt_pi, tt_gl, tt_pl, tt_ia, tt_st, tt_ir, tt_zr, tt_lr, tt_vr, tt_cv, tt_cs, tt_max, tt_min, tt_rem, tt_xor, tt_len, tt_cp, tt_thr, tt_xv, tt_xs, k_sv, k_cl, k_kz, List.getElem?_cons_zero, List.getElem?_cons_succ, List.drop_succ_cons, List.drop_zero, List.take_succ_cons, List.take_zero, List.reverse_cons, List.reverse_nil, List.nil_append, List.cons_append, List.length_cons, List.length_nil, Option.toList_some, Option.toList_none, Nat.reduceAdd, Nat.reduceLeDiff, true_and, and_true, sp_I, sp_II, sp_III, sp_JI, sp_JJ, sp_R2, sp_R5I, sp_V, hF]
    intro q
    dsimp only at hE
    subst hE
    · rw [wE, if_pos rfl] at h
      cases h
      rw [tt_th, if_pos rfl]
      simp only [tt_c, tt_lc, tt_il, tt_ll, tt_al, tt_is, tt_lsv, tt_as, tt_inc, tt_add, tt_sub, tt_mul, tt_and, tt_ladd, tt_lmul, tt_i2l, tt_lcmp, tt_dupr, tt_dup2, tt_eq0, tt_lt0, tt_le0, tt_ge0, tt_gt0, tt_eq2, tt_lt2, tt_ge2, tt_gt2, tt_le2, tt_gr, tt_gi, tt_pi, tt_gl, tt_pl, tt_ia, tt_st, tt_ir, tt_zr, tt_lr, tt_vr, tt_cv, tt_cs, tt_max, tt_min, tt_rem, tt_xor, tt_len, tt_cp, tt_thr, tt_xv, tt_xs, k_sv, k_cl, k_kz, List.getElem?_cons_zero, List.getElem?_cons_succ, List.drop_succ_cons, List.drop_zero, List.take_succ_cons, List.take_zero, List.reverse_cons, List.reverse_nil, List.nil_append, List.cons_append, List.length_cons, List.length_nil, Option.toList_some, Option.toList_none, Nat.reduceAdd, Nat.reduceLeDiff, true_and, and_true, sp_I, sp_II, sp_III, sp_JI, sp_JJ, sp_R2, sp_R5I, sp_V]
  · cases h
theorem pn_setSource (ad : Nat → Nat) (x0 : Int32) (M : Mm) (r : Rs) (h : wN (f_setSource x0 M) = some r) : TN_L_setSource ad r (sp_I f_setSource) [some (.ref (ad 0)), some (.int x0), none] [] M := by
  unfold wN at h
  split at h
  · next v M1 hF =>
    cases h
    simp only [TN_L_setSource, tt_c, tt_lc, tt_il, tt_ll, tt_al, tt_is, tt_lsv, tt_as, tt_inc, tt_add, tt_sub, tt_mul, tt_and, tt_ladd, tt_lmul, tt_i2l, tt_lcmp, tt_dupr, tt_dup2, tt_eq0, tt_lt0, tt_le0, tt_ge0, tt_gt0, tt_eq2, tt_lt2, tt_ge2, tt_gt2, tt_le2, tt_gr, tt_gi, tt_pi, tt_gl, tt_pl, tt_ia, tt_st, tt_ir, tt_zr, tt_lr, tt_vr, tt_cv, tt_cs, tt_max, tt_min, tt_rem, tt_xor, tt_len, tt_cp, tt_thr, tt_xv, tt_xs, k_sv, k_cl, k_kz, List.getElem?_cons_zero, List.getElem?_cons_succ, List.drop_succ_cons, List.drop_zero, List.take_succ_cons, List.take_zero, List.reverse_cons, List.reverse_nil, List.nil_append, List.cons_append, List.length_cons, List.length_nil, Option.toList_some, Option.toList_none, Nat.reduceAdd, Nat.reduceLeDiff, true_and, and_true, sp_I, sp_II, sp_III, sp_JI, sp_JJ, sp_R2, sp_R5I, sp_V, hF]
  · cases h
def sw_setSource (ad : Nat → Nat) : Sp := fun As M => match As with
  | [.ref a0, .int x0] => if a0 = ad 0 then wX [(k_IAE, (-901))] (f_setSource x0 M) else none
  | _ => none
def sn_setSource (ad : Nat → Nat) : Sp := fun As M => match As with
  | [.ref a0, .int x0] => if a0 = ad 0 then wN (f_setSource x0 M) else none
  | _ => none
theorem wr_setSource {l : Launch} {ad : Nat → Nat} {D : va_G} {cI cL : ClassId} (hI : k_I ad) (hf : l.stackTraces = false) : k_Wr l ad D cI cL yL_setSource cL_setSource 3 hh_setSource 8 166 (sw_setSource ad) :=
  k_wr (tree := fun r => T_L_setSource ad r (sp_I f_setSource)) hI (by decide +kernel) (fun X res hl hD C E T => S_L_setSource C E T (k_cvOf hl hD (cc_X3_setSource hI hf).1) (k_ctOf hl hD (cc_X3_setSource hI hf).2)) (fun As M r hF => by
    unfold sw_setSource at hF
    split at hF
    · split at hF
      · next hc =>
        obtain rfl := hc
        exact ⟨Nat.le_of_ble_eq_true rfl, _, k_inL rfl, pw_setSource ad _ M _ hF⟩
      · cases hF
    · cases hF)
theorem wn_setSource {l : Launch} {ad : Nat → Nat} {D : va_G} {cI cL : ClassId} (hI : k_I ad) (hf : l.stackTraces = false) : k_WrN l ad D cI cL yL_setSource cL_setSource 3 hh_setSource 8 166 (sn_setSource ad) :=
  k_wrN (tree := fun r => TN_L_setSource ad r (sp_I f_setSource)) hI (by decide +kernel) (fun X res hl hD C E => SN_L_setSource C E (k_cvOf hl hD (cc_X3_setSource hI hf).1)) (fun As M r hF => by
    unfold sn_setSource at hF
    split at hF
    · split at hF
      · next hc =>
        obtain rfl := hc
        exact ⟨Nat.le_of_ble_eq_true rfl, _, k_inL rfl, pn_setSource ad _ M _ hF⟩
      · cases hF
    · cases hF)
abbrev hh_setDelay : List (Nat × Nat × Nat × Nat) := [(0, 5, 6, 17)]
theorem fe_setDelay (As : List Value) (M : Mm) (e : String × Mm) (h : sp_I f_setDelay As M = some (.inr e)) : e.1 = k_IAE := by
  unfold sp_I at h
  split at h
  · simp only [f_setDelay, q_ms] at h
    (repeat' split at h) <;> first | (cases h; done) | (cases h; simp)
  · cases h
def T_L_setDelay (ad : Nat → Nat) (res : Rs) (F : Sp) : Tr := (tt_al 0 (tt_il 1 (tt_xc ad 0 1 F (tt_ir res) (tt_th [(k_IAE, (tt_as 2 (tt_c (-901) (tt_ir res))))]))))
def TN_L_setDelay (ad : Nat → Nat) (res : Rs) (F : Sp) : Tr := (tt_al 0 (tt_il 1 (tt_cv ad 0 1 F (tt_ir res))))
theorem S_L_setDelay {ad : Nat → Nat} {X : Cx} {res : Rs} (C : k_C ad X cL_setDelay RL 3 8 134) (E : k_E ad (k_bump X) (some .int) res) (T : k_TW X hh_setDelay) (h : kv_X3_setDelay ad X (sp_I f_setDelay)) (hx : kt_X3_setDelay ad X (sp_I f_setDelay)) : Sd ad X 0 (T_L_setDelay ad res (sp_I f_setDelay)) := by
  have Cb := k_Cb C T
  unfold T_L_setDelay
  exact (ss_al0 C dL_setDelay_0 rfl (ss_il0 C dL_setDelay_1 rfl (ss_xc (hh := hh_setDelay) k_rc0 C T dL_setDelay_2 kc_RL_35 rfl h hx rfl (fun As M e h => by
    have hE := fe_setDelay As M e h
    skip
    · rw [hE]
      exact ⟨[], ⟨0, 5, 6, 17⟩, [], rfl, (fun z hz => absurd hz List.not_mem_nil), by decide, by decide, (k_gm 394 (by decide +kernel) (by decide +kernel)), by decide, by rw [tt_th, if_pos rfl]; exact (ss_as0 Cb dL_setDelay_6 rfl (by decide) (ss_sp Cb dL_setDelay_7 (by decide) (ss_ir Cb E dL_setDelay_10)))⟩
    ) (ss_ir Cb E dL_setDelay_5))))
theorem SN_L_setDelay {ad : Nat → Nat} {X : Cx} {res : Rs} (C : k_C ad X cL_setDelay RL 3 8 134) (E : k_E ad X (some .int) res) (h : kv_X3_setDelay ad X (sp_I f_setDelay)) : Sd ad X 0 (TN_L_setDelay ad res (sp_I f_setDelay)) := by
  unfold TN_L_setDelay
  exact (ss_al0 C dL_setDelay_0 rfl (ss_il0 C dL_setDelay_1 rfl (ss_cv k_rc0 C dL_setDelay_2 kc_RL_35 rfl h rfl (ss_ir C E dL_setDelay_5))))
theorem pw_setDelay (ad : Nat → Nat) (x0 : Int32) (M : Mm) (r : Rs) (h : wX [(k_IAE, (-901))] (f_setDelay x0 M) = some r) : T_L_setDelay ad r (sp_I f_setDelay) [some (.ref (ad 0)), some (.int x0), none] [] M := by
  unfold wX at h
  split at h
  · next v M1 hF =>
    cases h
    simp only [T_L_setDelay, tt_xc, tt_c, tt_lc, tt_il, tt_ll, tt_al, tt_is, tt_lsv, tt_as, tt_inc, tt_add, tt_sub, tt_mul, tt_and, tt_ladd, tt_lmul, tt_i2l, tt_lcmp, tt_dupr, tt_dup2, tt_eq0, tt_lt0, tt_le0, tt_ge0, tt_gt0, tt_eq2, tt_lt2, tt_ge2, tt_gt2, tt_le2, tt_gr, tt_gi, tt_pi, tt_gl, tt_pl, tt_ia, tt_st, tt_ir, tt_zr, tt_lr, tt_vr, tt_cv, tt_cs, tt_max, tt_min, tt_rem, tt_xor, tt_len, tt_cp, tt_thr, tt_xv, tt_xs, k_sv, k_cl, k_kz, List.getElem?_cons_zero, List.getElem?_cons_succ, List.drop_succ_cons, List.drop_zero, List.take_succ_cons, List.take_zero, List.reverse_cons, List.reverse_nil, List.nil_append, List.cons_append, List.length_cons, List.length_nil, Option.toList_some, Option.toList_none, Nat.reduceAdd, Nat.reduceLeDiff, true_and, and_true, sp_I, sp_II, sp_III, sp_JI, sp_JJ, sp_R2, sp_R5I, sp_V, hF]
  · next E M1 hF =>
    have hE : sp_I f_setDelay [.int x0] M = some (.inr (E, M1)) := hF
    have hE := fe_setDelay _ _ _ hE
    simp only [T_L_setDelay, tt_xc, tt_c, tt_lc, tt_il, tt_ll, tt_al, tt_is, tt_lsv, tt_as, tt_inc, tt_add, tt_sub, tt_mul, tt_and, tt_ladd, tt_lmul, tt_i2l, tt_lcmp, tt_dupr, tt_dup2, tt_eq0, tt_lt0, tt_le0, tt_ge0, tt_gt0, tt_eq2, tt_lt2, tt_ge2, tt_gt2, tt_le2, tt_gr, tt_gi, tt_pi, tt_gl, tt_pl, tt_ia, tt_st, tt_ir, tt_zr, tt_lr, tt_vr, tt_cv, tt_cs, tt_max, tt_min, tt_rem, tt_xor, tt_len, tt_cp, tt_thr, tt_xv, tt_xs, k_sv, k_cl, k_kz, List.getElem?_cons_zero, List.getElem?_cons_succ, List.drop_succ_cons, List.drop_zero, List.take_succ_cons, List.take_zero, List.reverse_cons, List.reverse_nil, List.nil_append, List.cons_append, List.length_cons, List.length_nil, Option.toList_some, Option.toList_none, Nat.reduceAdd, Nat.reduceLeDiff, true_and, and_true, sp_I, sp_II, sp_III, sp_JI, sp_JJ, sp_R2, sp_R5I, sp_V, hF]
    intro q
    dsimp only at hE
    subst hE
    · rw [wE, if_pos rfl] at h
      cases h
      rw [tt_th, if_pos rfl]
      simp only [tt_c, tt_lc, tt_il, tt_ll, tt_al, tt_is, tt_lsv, tt_as, tt_inc, tt_add, tt_sub, tt_mul, tt_and, tt_ladd, tt_lmul, tt_i2l, tt_lcmp, tt_dupr, tt_dup2, tt_eq0, tt_lt0, tt_le0, tt_ge0, tt_gt0, tt_eq2, tt_lt2, tt_ge2, tt_gt2, tt_le2, tt_gr, tt_gi, tt_pi, tt_gl, tt_pl, tt_ia, tt_st, tt_ir, tt_zr, tt_lr, tt_vr, tt_cv, tt_cs, tt_max, tt_min, tt_rem, tt_xor, tt_len, tt_cp, tt_thr, tt_xv, tt_xs, k_sv, k_cl, k_kz, List.getElem?_cons_zero, List.getElem?_cons_succ, List.drop_succ_cons, List.drop_zero, List.take_succ_cons, List.take_zero, List.reverse_cons, List.reverse_nil, List.nil_append, List.cons_append, List.length_cons, List.length_nil, Option.toList_some, Option.toList_none, Nat.reduceAdd, Nat.reduceLeDiff, true_and, and_true, sp_I, sp_II, sp_III, sp_JI, sp_JJ, sp_R2, sp_R5I, sp_V]
  · cases h
theorem pn_setDelay (ad : Nat → Nat) (x0 : Int32) (M : Mm) (r : Rs) (h : wN (f_setDelay x0 M) = some r) : TN_L_setDelay ad r (sp_I f_setDelay) [some (.ref (ad 0)), some (.int x0), none] [] M := by
  unfold wN at h
  split at h
  · next v M1 hF =>
    cases h
    simp only [TN_L_setDelay, tt_c, tt_lc, tt_il, tt_ll, tt_al, tt_is, tt_lsv, tt_as, tt_inc, tt_add, tt_sub, tt_mul, tt_and, tt_ladd, tt_lmul, tt_i2l, tt_lcmp, tt_dupr, tt_dup2, tt_eq0, tt_lt0, tt_le0, tt_ge0, tt_gt0, tt_eq2, tt_lt2, tt_ge2, tt_gt2, tt_le2, tt_gr, tt_gi, tt_pi, tt_gl, tt_pl, tt_ia, tt_st, tt_ir, tt_zr, tt_lr, tt_vr, tt_cv, tt_cs, tt_max, tt_min, tt_rem, tt_xor, tt_len, tt_cp, tt_thr, tt_xv, tt_xs, k_sv, k_cl, k_kz, List.getElem?_cons_zero, List.getElem?_cons_succ, List.drop_succ_cons, List.drop_zero, List.take_succ_cons, List.take_zero, List.reverse_cons, List.reverse_nil, List.nil_append, List.cons_append, List.length_cons, List.length_nil, Option.toList_some, Option.toList_none, Nat.reduceAdd, Nat.reduceLeDiff, true_and, and_true, sp_I, sp_II, sp_III, sp_JI, sp_JJ, sp_R2, sp_R5I, sp_V, hF]
  · cases h
def sw_setDelay (ad : Nat → Nat) : Sp := fun As M => match As with
  | [.ref a0, .int x0] => if a0 = ad 0 then wX [(k_IAE, (-901))] (f_setDelay x0 M) else none
  | _ => none
def sn_setDelay (ad : Nat → Nat) : Sp := fun As M => match As with
  | [.ref a0, .int x0] => if a0 = ad 0 then wN (f_setDelay x0 M) else none
  | _ => none
theorem wr_setDelay {l : Launch} {ad : Nat → Nat} {D : va_G} {cI cL : ClassId} (hI : k_I ad) (hf : l.stackTraces = false) : k_Wr l ad D cI cL yL_setDelay cL_setDelay 3 hh_setDelay 8 134 (sw_setDelay ad) :=
  k_wr (tree := fun r => T_L_setDelay ad r (sp_I f_setDelay)) hI (by decide +kernel) (fun X res hl hD C E T => S_L_setDelay C E T (k_cvOf hl hD (cc_X3_setDelay hI hf).1) (k_ctOf hl hD (cc_X3_setDelay hI hf).2)) (fun As M r hF => by
    unfold sw_setDelay at hF
    split at hF
    · split at hF
      · next hc =>
        obtain rfl := hc
        exact ⟨Nat.le_of_ble_eq_true rfl, _, k_inL rfl, pw_setDelay ad _ M _ hF⟩
      · cases hF
    · cases hF)
theorem wn_setDelay {l : Launch} {ad : Nat → Nat} {D : va_G} {cI cL : ClassId} (hI : k_I ad) (hf : l.stackTraces = false) : k_WrN l ad D cI cL yL_setDelay cL_setDelay 3 hh_setDelay 8 134 (sn_setDelay ad) :=
  k_wrN (tree := fun r => TN_L_setDelay ad r (sp_I f_setDelay)) hI (by decide +kernel) (fun X res hl hD C E => SN_L_setDelay C E (k_cvOf hl hD (cc_X3_setDelay hI hf).1)) (fun As M r hF => by
    unfold sn_setDelay at hF
    split at hF
    · split at hF
      · next hc =>
        obtain rfl := hc
        exact ⟨Nat.le_of_ble_eq_true rfl, _, k_inL rfl, pn_setDelay ad _ M _ hF⟩
      · cases hF
    · cases hF)
abbrev hh_rejoin : List (Nat × Nat × Nat × Nat) := [(0, 6, 7, 15), (0, 6, 12, 19)]
theorem fe_rejoin (As : List Value) (M : Mm) (e : String × Mm) (h : sp_II f_rejoin As M = some (.inr e)) : e.1 = k_IOE ∨ e.1 = k_ISE := by
  unfold sp_II at h
  split at h
  · simp only [f_rejoin, q_ms] at h
    (repeat' split at h) <;> first | (cases h; done) | (cases h; simp)
  · cases h
def T_L_rejoin (ad : Nat → Nat) (res : Rs) (F : Sp) : Tr := (tt_al 0 (tt_il 1 (tt_il 2 (tt_xc ad 0 2 F (tt_ir res) (tt_th [(k_IOE, (tt_as 3 (tt_c (-903) (tt_ir res)))), (k_ISE, (tt_as 3 (tt_c (-902) (tt_ir res))))])))))
def TN_L_rejoin (ad : Nat → Nat) (res : Rs) (F : Sp) : Tr := (tt_al 0 (tt_il 1 (tt_il 2 (tt_cv ad 0 2 F (tt_ir res)))))
theorem S_L_rejoin {ad : Nat → Nat} {X : Cx} {res : Rs} (C : k_C ad X cL_rejoin RL 4 8 143) (E : k_E ad (k_bump X) (some .int) res) (T : k_TW X hh_rejoin) (h : kv_X3_rejoin ad X (sp_II f_rejoin)) (hx : kt_X3_rejoin ad X (sp_II f_rejoin)) : Sd ad X 0 (T_L_rejoin ad res (sp_II f_rejoin)) := by
  have Cb := k_Cb C T
  unfold T_L_rejoin
  exact (ss_al0 C dL_rejoin_0 rfl (ss_il0 C dL_rejoin_1 rfl (ss_il0 C dL_rejoin_2 rfl (ss_xc (hh := hh_rejoin) k_rc0 C T dL_rejoin_3 kc_RL_38 rfl h hx rfl (fun As M e h => by
    have hE := fe_rejoin As M e h
    rcases hE with hE | hE
    · rw [hE]
      exact ⟨[], ⟨0, 6, 7, 15⟩, [⟨0, 6, 12, 19⟩], rfl, (fun z hz => absurd hz List.not_mem_nil), by decide, by decide, (k_gm 393 (by decide +kernel) (by decide +kernel)), by decide, by rw [tt_th, if_pos rfl]; exact (ss_as0 Cb dL_rejoin_7 rfl (by decide) (ss_sp Cb dL_rejoin_8 (by decide) (ss_ir Cb E dL_rejoin_11)))⟩
    · rw [hE]
      exact ⟨[⟨0, 6, 7, 15⟩], ⟨0, 6, 12, 19⟩, [], rfl, (fun z hz => by
        simp only [List.mem_cons, List.not_mem_nil, or_false] at hz
        subst hz
        · exact Or.inr ⟨by decide, k_IOE, (k_gm 393 (by decide +kernel) (by decide +kernel)), by decide⟩), by decide, by decide, (k_gm 395 (by decide +kernel) (by decide +kernel)), by decide, by rw [tt_th, if_neg (by decide), tt_th, if_pos rfl]; exact (ss_as0 Cb dL_rejoin_12 rfl (by decide) (ss_sp Cb dL_rejoin_13 (by decide) (ss_ir Cb E dL_rejoin_16)))⟩
    ) (ss_ir Cb E dL_rejoin_6)))))
theorem SN_L_rejoin {ad : Nat → Nat} {X : Cx} {res : Rs} (C : k_C ad X cL_rejoin RL 4 8 143) (E : k_E ad X (some .int) res) (h : kv_X3_rejoin ad X (sp_II f_rejoin)) : Sd ad X 0 (TN_L_rejoin ad res (sp_II f_rejoin)) := by
  unfold TN_L_rejoin
  exact (ss_al0 C dL_rejoin_0 rfl (ss_il0 C dL_rejoin_1 rfl (ss_il0 C dL_rejoin_2 rfl (ss_cv k_rc0 C dL_rejoin_3 kc_RL_38 rfl h rfl (ss_ir C E dL_rejoin_6)))))
theorem pw_rejoin (ad : Nat → Nat) (x0 : Int32) (x1 : Int32) (M : Mm) (r : Rs) (h : wX [(k_IOE, (-903)), (k_ISE, (-902))] (f_rejoin x0 x1 M) = some r) : T_L_rejoin ad r (sp_II f_rejoin) [some (.ref (ad 0)), some (.int x0), some (.int x1), none] [] M := by
  unfold wX at h
  split at h
  · next v M1 hF =>
    cases h
    simp only [T_L_rejoin, tt_xc, tt_c, tt_lc, tt_il, tt_ll, tt_al, tt_is, tt_lsv, tt_as, tt_inc, tt_add, tt_sub, tt_mul, tt_and, tt_ladd, tt_lmul, tt_i2l, tt_lcmp, tt_dupr, tt_dup2, tt_eq0, tt_lt0, tt_le0, tt_ge0, tt_gt0, tt_eq2, tt_lt2, tt_ge2, tt_gt2, tt_le2, tt_gr, tt_gi, tt_pi, tt_gl, tt_pl, tt_ia, tt_st, tt_ir, tt_zr, tt_lr, tt_vr, tt_cv, tt_cs, tt_max, tt_min, tt_rem, tt_xor, tt_len, tt_cp, tt_thr, tt_xv, tt_xs, k_sv, k_cl, k_kz, List.getElem?_cons_zero, List.getElem?_cons_succ, List.drop_succ_cons, List.drop_zero, List.take_succ_cons, List.take_zero, List.reverse_cons, List.reverse_nil, List.nil_append, List.cons_append, List.length_cons, List.length_nil, Option.toList_some, Option.toList_none, Nat.reduceAdd, Nat.reduceLeDiff, true_and, and_true, sp_I, sp_II, sp_III, sp_JI, sp_JJ, sp_R2, sp_R5I, sp_V, hF]
  · next E M1 hF =>
    have hE : sp_II f_rejoin [.int x0, .int x1] M = some (.inr (E, M1)) := hF
    have hE := fe_rejoin _ _ _ hE
    simp only [T_L_rejoin, tt_xc, tt_c, tt_lc, tt_il, tt_ll, tt_al, tt_is, tt_lsv, tt_as, tt_inc, tt_add, tt_sub, tt_mul, tt_and, tt_ladd, tt_lmul, tt_i2l, tt_lcmp, tt_dupr, tt_dup2, tt_eq0, tt_lt0, tt_le0, tt_ge0, tt_gt0, tt_eq2, tt_lt2, tt_ge2, tt_gt2, tt_le2, tt_gr, tt_gi, tt_pi, tt_gl, tt_pl, tt_ia, tt_st, tt_ir, tt_zr, tt_lr, tt_vr, tt_cv, tt_cs, tt_max, tt_min, tt_rem, tt_xor, tt_len, tt_cp, tt_thr, tt_xv, tt_xs, k_sv, k_cl, k_kz, List.getElem?_cons_zero, List.getElem?_cons_succ, List.drop_succ_cons, List.drop_zero, List.take_succ_cons, List.take_zero, List.reverse_cons, List.reverse_nil, List.nil_append, List.cons_append, List.length_cons, List.length_nil, Option.toList_some, Option.toList_none, Nat.reduceAdd, Nat.reduceLeDiff, true_and, and_true, sp_I, sp_II, sp_III, sp_JI, sp_JJ, sp_R2, sp_R5I, sp_V, hF]
    intro q
    dsimp only at hE
    rcases hE with rfl | rfl
    · rw [wE, if_pos rfl] at h
      cases h
      rw [tt_th, if_pos rfl]
      simp only [tt_c, tt_lc, tt_il, tt_ll, tt_al, tt_is, tt_lsv, tt_as, tt_inc, tt_add, tt_sub, tt_mul, tt_and, tt_ladd, tt_lmul, tt_i2l, tt_lcmp, tt_dupr, tt_dup2, tt_eq0, tt_lt0, tt_le0, tt_ge0, tt_gt0, tt_eq2, tt_lt2, tt_ge2, tt_gt2, tt_le2, tt_gr, tt_gi, tt_pi, tt_gl, tt_pl, tt_ia, tt_st, tt_ir, tt_zr, tt_lr, tt_vr, tt_cv, tt_cs, tt_max, tt_min, tt_rem, tt_xor, tt_len, tt_cp, tt_thr, tt_xv, tt_xs, k_sv, k_cl, k_kz, List.getElem?_cons_zero, List.getElem?_cons_succ, List.drop_succ_cons, List.drop_zero, List.take_succ_cons, List.take_zero, List.reverse_cons, List.reverse_nil, List.nil_append, List.cons_append, List.length_cons, List.length_nil, Option.toList_some, Option.toList_none, Nat.reduceAdd, Nat.reduceLeDiff, true_and, and_true, sp_I, sp_II, sp_III, sp_JI, sp_JJ, sp_R2, sp_R5I, sp_V]
    · rw [wE, if_neg (show ¬ k_ISE = k_IOE by decide), wE, if_pos rfl] at h
      cases h
      rw [tt_th, if_neg (show ¬ k_ISE = k_IOE by decide), tt_th, if_pos rfl]
      simp only [tt_c, tt_lc, tt_il, tt_ll, tt_al, tt_is, tt_lsv, tt_as, tt_inc, tt_add, tt_sub, tt_mul, tt_and, tt_ladd, tt_lmul, tt_i2l, tt_lcmp, tt_dupr, tt_dup2, tt_eq0, tt_lt0, tt_le0, tt_ge0, tt_gt0, tt_eq2, tt_lt2, tt_ge2, tt_gt2, tt_le2, tt_gr, tt_gi, tt_pi, tt_gl, tt_pl, tt_ia, tt_st, tt_ir, tt_zr, tt_lr, tt_vr, tt_cv, tt_cs, tt_max, tt_min, tt_rem, tt_xor, tt_len, tt_cp, tt_thr, tt_xv, tt_xs, k_sv, k_cl, k_kz, List.getElem?_cons_zero, List.getElem?_cons_succ, List.drop_succ_cons, List.drop_zero, List.take_succ_cons, List.take_zero, List.reverse_cons, List.reverse_nil, List.nil_append, List.cons_append, List.length_cons, List.length_nil, Option.toList_some, Option.toList_none, Nat.reduceAdd, Nat.reduceLeDiff, true_and, and_true, sp_I, sp_II, sp_III, sp_JI, sp_JJ, sp_R2, sp_R5I, sp_V]
  · cases h
theorem pn_rejoin (ad : Nat → Nat) (x0 : Int32) (x1 : Int32) (M : Mm) (r : Rs) (h : wN (f_rejoin x0 x1 M) = some r) : TN_L_rejoin ad r (sp_II f_rejoin) [some (.ref (ad 0)), some (.int x0), some (.int x1), none] [] M := by
  unfold wN at h
  split at h
  · next v M1 hF =>
    cases h
    simp only [TN_L_rejoin, tt_c, tt_lc, tt_il, tt_ll, tt_al, tt_is, tt_lsv, tt_as, tt_inc, tt_add, tt_sub, tt_mul, tt_and, tt_ladd, tt_lmul, tt_i2l, tt_lcmp, tt_dupr, tt_dup2, tt_eq0, tt_lt0, tt_le0, tt_ge0, tt_gt0, tt_eq2, tt_lt2, tt_ge2, tt_gt2, tt_le2, tt_gr, tt_gi, tt_pi, tt_gl, tt_pl, tt_ia, tt_st, tt_ir, tt_zr, tt_lr, tt_vr, tt_cv, tt_cs, tt_max, tt_min, tt_rem, tt_xor, tt_len, tt_cp, tt_thr, tt_xv, tt_xs, k_sv, k_cl, k_kz, List.getElem?_cons_zero, List.getElem?_cons_succ, List.drop_succ_cons, List.drop_zero, List.take_succ_cons, List.take_zero, List.reverse_cons, List.reverse_nil, List.nil_append, List.cons_append, List.length_cons, List.length_nil, Option.toList_some, Option.toList_none, Nat.reduceAdd, Nat.reduceLeDiff, true_and, and_true, sp_I, sp_II, sp_III, sp_JI, sp_JJ, sp_R2, sp_R5I, sp_V, hF]
  · cases h
def sw_rejoin (ad : Nat → Nat) : Sp := fun As M => match As with
  | [.ref a0, .int x0, .int x1] => if a0 = ad 0 then wX [(k_IOE, (-903)), (k_ISE, (-902))] (f_rejoin x0 x1 M) else none
  | _ => none
def sn_rejoin (ad : Nat → Nat) : Sp := fun As M => match As with
  | [.ref a0, .int x0, .int x1] => if a0 = ad 0 then wN (f_rejoin x0 x1 M) else none
  | _ => none
theorem wr_rejoin {l : Launch} {ad : Nat → Nat} {D : va_G} {cI cL : ClassId} (hI : k_I ad) (hf : l.stackTraces = false) : k_Wr l ad D cI cL yL_rejoin cL_rejoin 4 hh_rejoin 8 143 (sw_rejoin ad) :=
  k_wr (tree := fun r => T_L_rejoin ad r (sp_II f_rejoin)) hI (by decide +kernel) (fun X res hl hD C E T => S_L_rejoin C E T (k_cvOf hl hD (cc_X3_rejoin hI hf).1) (k_ctOf hl hD (cc_X3_rejoin hI hf).2)) (fun As M r hF => by
    unfold sw_rejoin at hF
    split at hF
    · split at hF
      · next hc =>
        obtain rfl := hc
        exact ⟨Nat.le_of_ble_eq_true rfl, _, k_inL rfl, pw_rejoin ad _ _ M _ hF⟩
      · cases hF
    · cases hF)
theorem wn_rejoin {l : Launch} {ad : Nat → Nat} {D : va_G} {cI cL : ClassId} (hI : k_I ad) (hf : l.stackTraces = false) : k_WrN l ad D cI cL yL_rejoin cL_rejoin 4 hh_rejoin 8 143 (sn_rejoin ad) :=
  k_wrN (tree := fun r => TN_L_rejoin ad r (sp_II f_rejoin)) hI (by decide +kernel) (fun X res hl hD C E => SN_L_rejoin C E (k_cvOf hl hD (cc_X3_rejoin hI hf).1)) (fun As M r hF => by
    unfold sn_rejoin at hF
    split at hF
    · split at hF
      · next hc =>
        obtain rfl := hc
        exact ⟨Nat.le_of_ble_eq_true rfl, _, k_inL rfl, pn_rejoin ad _ _ M _ hF⟩
      · cases hF
    · cases hF)
abbrev hh_tick : List (Nat × Nat × Nat × Nat) := [(0, 5, 6, 17)]
theorem fe_tick (As : List Value) (M : Mm) (e : String × Mm) (h : sp_I f_tick As M = some (.inr e)) : e.1 = k_IAE := by
  unfold sp_I at h
  split at h
  · simp only [f_tick, q_ms] at h
    (repeat' split at h) <;> first | (cases h; done) | (cases h; simp)
  · cases h
def T_L_tick (ad : Nat → Nat) (res : Rs) (F : Sp) : Tr := (tt_al 0 (tt_il 1 (tt_xc ad 0 1 F (tt_ir res) (tt_th [(k_IAE, (tt_as 2 (tt_c (-901) (tt_ir res))))]))))
def TN_L_tick (ad : Nat → Nat) (res : Rs) (F : Sp) : Tr := (tt_al 0 (tt_il 1 (tt_cv ad 0 1 F (tt_ir res))))
theorem S_L_tick {ad : Nat → Nat} {X : Cx} {res : Rs} (C : k_C ad X cL_tick RL 3 8 188) (E : k_E ad (k_bump X) (some .int) res) (T : k_TW X hh_tick) (h : kv_X3_tick ad X (sp_I f_tick)) (hx : kt_X3_tick ad X (sp_I f_tick)) : Sd ad X 0 (T_L_tick ad res (sp_I f_tick)) := by
  have Cb := k_Cb C T
  unfold T_L_tick
  exact (ss_al0 C dL_tick_0 rfl (ss_il0 C dL_tick_1 rfl (ss_xc (hh := hh_tick) k_rc0 C T dL_tick_2 kc_RL_41 rfl h hx rfl (fun As M e h => by
    have hE := fe_tick As M e h
    skip
    · rw [hE]
      exact ⟨[], ⟨0, 5, 6, 17⟩, [], rfl, (fun z hz => absurd hz List.not_mem_nil), by decide, by decide, (k_gm 394 (by decide +kernel) (by decide +kernel)), by decide, by rw [tt_th, if_pos rfl]; exact (ss_as0 Cb dL_tick_6 rfl (by decide) (ss_sp Cb dL_tick_7 (by decide) (ss_ir Cb E dL_tick_10)))⟩
    ) (ss_ir Cb E dL_tick_5))))
theorem SN_L_tick {ad : Nat → Nat} {X : Cx} {res : Rs} (C : k_C ad X cL_tick RL 3 8 188) (E : k_E ad X (some .int) res) (h : kv_X3_tick ad X (sp_I f_tick)) : Sd ad X 0 (TN_L_tick ad res (sp_I f_tick)) := by
  unfold TN_L_tick
  exact (ss_al0 C dL_tick_0 rfl (ss_il0 C dL_tick_1 rfl (ss_cv k_rc0 C dL_tick_2 kc_RL_41 rfl h rfl (ss_ir C E dL_tick_5))))
theorem pw_tick (ad : Nat → Nat) (x0 : Int32) (M : Mm) (r : Rs) (h : wX [(k_IAE, (-901))] (f_tick x0 M) = some r) : T_L_tick ad r (sp_I f_tick) [some (.ref (ad 0)), some (.int x0), none] [] M := by
  unfold wX at h
  split at h
  · next v M1 hF =>
    cases h
    simp only [T_L_tick, tt_xc, tt_c, tt_lc, tt_il, tt_ll, tt_al, tt_is, tt_lsv, tt_as, tt_inc, tt_add, tt_sub, tt_mul, tt_and, tt_ladd, tt_lmul, tt_i2l, tt_lcmp, tt_dupr, tt_dup2, tt_eq0, tt_lt0, tt_le0, tt_ge0, tt_gt0, tt_eq2, tt_lt2, tt_ge2, tt_gt2, tt_le2, tt_gr, tt_gi, tt_pi, tt_gl, tt_pl, tt_ia, tt_st, tt_ir, tt_zr, tt_lr, tt_vr, tt_cv, tt_cs, tt_max, tt_min, tt_rem, tt_xor, tt_len, tt_cp, tt_thr, tt_xv, tt_xs, k_sv, k_cl, k_kz, List.getElem?_cons_zero, List.getElem?_cons_succ, List.drop_succ_cons, List.drop_zero, List.take_succ_cons, List.take_zero, List.reverse_cons, List.reverse_nil, List.nil_append, List.cons_append, List.length_cons, List.length_nil, Option.toList_some, Option.toList_none, Nat.reduceAdd, Nat.reduceLeDiff, true_and, and_true, sp_I, sp_II, sp_III, sp_JI, sp_JJ, sp_R2, sp_R5I, sp_V, hF]
  · next E M1 hF =>
    have hE : sp_I f_tick [.int x0] M = some (.inr (E, M1)) := hF
    have hE := fe_tick _ _ _ hE
    simp only [T_L_tick, tt_xc, tt_c, tt_lc, tt_il, tt_ll, tt_al, tt_is, tt_lsv, tt_as, tt_inc, tt_add, tt_sub, tt_mul, tt_and, tt_ladd, tt_lmul, tt_i2l, tt_lcmp, tt_dupr, tt_dup2, tt_eq0, tt_lt0, tt_le0, tt_ge0, tt_gt0, tt_eq2, tt_lt2, tt_ge2, tt_gt2, tt_le2, tt_gr, tt_gi, tt_pi, tt_gl, tt_pl, tt_ia, tt_st, tt_ir, tt_zr, tt_lr, tt_vr, tt_cv, tt_cs, tt_max, tt_min, tt_rem, tt_xor, tt_len, tt_cp, tt_thr, tt_xv, tt_xs, k_sv, k_cl, k_kz, List.getElem?_cons_zero, List.getElem?_cons_succ, List.drop_succ_cons, List.drop_zero, List.take_succ_cons, List.take_zero, List.reverse_cons, List.reverse_nil, List.nil_append, List.cons_append, List.length_cons, List.length_nil, Option.toList_some, Option.toList_none, Nat.reduceAdd, Nat.reduceLeDiff, true_and, and_true, sp_I, sp_II, sp_III, sp_JI, sp_JJ, sp_R2, sp_R5I, sp_V, hF]
    intro q
    dsimp only at hE
    subst hE
    · rw [wE, if_pos rfl] at h
      cases h
      rw [tt_th, if_pos rfl]
      simp only [tt_c, tt_lc, tt_il, tt_ll, tt_al, tt_is, tt_lsv, tt_as, tt_inc, tt_add, tt_sub, tt_mul, tt_and, tt_ladd, tt_lmul, tt_i2l, tt_lcmp, tt_dupr, tt_dup2, tt_eq0, tt_lt0, tt_le0, tt_ge0, tt_gt0, tt_eq2, tt_lt2, tt_ge2, tt_gt2, tt_le2, tt_gr, tt_gi, tt_pi, tt_gl, tt_pl, tt_ia, tt_st, tt_ir, tt_zr, tt_lr, tt_vr, tt_cv, tt_cs, tt_max, tt_min, tt_rem, tt_xor, tt_len, tt_cp, tt_thr, tt_xv, tt_xs, k_sv, k_cl, k_kz, List.getElem?_cons_zero, List.getElem?_cons_succ, List.drop_succ_cons, List.drop_zero, List.take_succ_cons, List.take_zero, List.reverse_cons, List.reverse_nil, List.nil_append, List.cons_append, List.length_cons, List.length_nil, Option.toList_some, Option.toList_none, Nat.reduceAdd, Nat.reduceLeDiff, true_and, and_true, sp_I, sp_II, sp_III, sp_JI, sp_JJ, sp_R2, sp_R5I, sp_V]
  · cases h
theorem pn_tick (ad : Nat → Nat) (x0 : Int32) (M : Mm) (r : Rs) (h : wN (f_tick x0 M) = some r) : TN_L_tick ad r (sp_I f_tick) [some (.ref (ad 0)), some (.int x0), none] [] M := by
  unfold wN at h
  split at h
  · next v M1 hF =>
    cases h
    simp only [TN_L_tick, tt_c, tt_lc, tt_il, tt_ll, tt_al, tt_is, tt_lsv, tt_as, tt_inc, tt_add, tt_sub, tt_mul, tt_and, tt_ladd, tt_lmul, tt_i2l, tt_lcmp, tt_dupr, tt_dup2, tt_eq0, tt_lt0, tt_le0, tt_ge0, tt_gt0, tt_eq2, tt_lt2, tt_ge2, tt_gt2, tt_le2, tt_gr, tt_gi, tt_pi, tt_gl, tt_pl, tt_ia, tt_st, tt_ir, tt_zr, tt_lr, tt_vr, tt_cv, tt_cs, tt_max, tt_min, tt_rem, tt_xor, tt_len, tt_cp, tt_thr, tt_xv, tt_xs, k_sv, k_cl, k_kz, List.getElem?_cons_zero, List.getElem?_cons_succ, List.drop_succ_cons, List.drop_zero, List.take_succ_cons, List.take_zero, List.reverse_cons, List.reverse_nil, List.nil_append, List.cons_append, List.length_cons, List.length_nil, Option.toList_some, Option.toList_none, Nat.reduceAdd, Nat.reduceLeDiff, true_and, and_true, sp_I, sp_II, sp_III, sp_JI, sp_JJ, sp_R2, sp_R5I, sp_V, hF]
  · cases h
def sw_tick (ad : Nat → Nat) : Sp := fun As M => match As with
  | [.ref a0, .int x0] => if a0 = ad 0 then wX [(k_IAE, (-901))] (f_tick x0 M) else none
  | _ => none
def sn_tick (ad : Nat → Nat) : Sp := fun As M => match As with
  | [.ref a0, .int x0] => if a0 = ad 0 then wN (f_tick x0 M) else none
  | _ => none
theorem wr_tick {l : Launch} {ad : Nat → Nat} {D : va_G} {cI cL : ClassId} (hI : k_I ad) (hf : l.stackTraces = false) : k_Wr l ad D cI cL yL_tick cL_tick 3 hh_tick 8 188 (sw_tick ad) :=
  k_wr (tree := fun r => T_L_tick ad r (sp_I f_tick)) hI (by decide +kernel) (fun X res hl hD C E T => S_L_tick C E T (k_cvOf hl hD (cc_X3_tick hI hf).1) (k_ctOf hl hD (cc_X3_tick hI hf).2)) (fun As M r hF => by
    unfold sw_tick at hF
    split at hF
    · split at hF
      · next hc =>
        obtain rfl := hc
        exact ⟨Nat.le_of_ble_eq_true rfl, _, k_inL rfl, pw_tick ad _ M _ hF⟩
      · cases hF
    · cases hF)
theorem wn_tick {l : Launch} {ad : Nat → Nat} {D : va_G} {cI cL : ClassId} (hI : k_I ad) (hf : l.stackTraces = false) : k_WrN l ad D cI cL yL_tick cL_tick 3 hh_tick 8 188 (sn_tick ad) :=
  k_wrN (tree := fun r => TN_L_tick ad r (sp_I f_tick)) hI (by decide +kernel) (fun X res hl hD C E => SN_L_tick C E (k_cvOf hl hD (cc_X3_tick hI hf).1)) (fun As M r hF => by
    unfold sn_tick at hF
    split at hF
    · split at hF
      · next hc =>
        obtain rfl := hc
        exact ⟨Nat.le_of_ble_eq_true rfl, _, k_inL rfl, pn_tick ad _ M _ hF⟩
      · cases hF
    · cases hF)
abbrev hh_member : List (Nat × Nat × Nat × Nat) := [(0, 6, 7, 15), (0, 6, 12, 17)]
theorem fe_member (As : List Value) (M : Mm) (e : String × Mm) (h : sp_II f_member As M = some (.inr e)) : e.1 = k_IOE ∨ e.1 = k_IAE := by
  unfold sp_II at h
  split at h
  · simp only [f_member, q_ms] at h
    (repeat' split at h) <;> first | (cases h; done) | (cases h; simp)
  · cases h
def T_L_member (ad : Nat → Nat) (res : Rs) (F : Sp) : Tr := (tt_al 0 (tt_il 1 (tt_il 2 (tt_xc ad 0 2 F (tt_ir res) (tt_th [(k_IOE, (tt_as 3 (tt_c (-903) (tt_ir res)))), (k_IAE, (tt_as 3 (tt_c (-901) (tt_ir res))))])))))
def TN_L_member (ad : Nat → Nat) (res : Rs) (F : Sp) : Tr := (tt_al 0 (tt_il 1 (tt_il 2 (tt_cv ad 0 2 F (tt_ir res)))))
theorem S_L_member {ad : Nat → Nat} {X : Cx} {res : Rs} (C : k_C ad X cL_member RL 4 8 134) (E : k_E ad (k_bump X) (some .int) res) (T : k_TW X hh_member) (h : kv_X3_member ad X (sp_II f_member)) (hx : kt_X3_member ad X (sp_II f_member)) : Sd ad X 0 (T_L_member ad res (sp_II f_member)) := by
  have Cb := k_Cb C T
  unfold T_L_member
  exact (ss_al0 C dL_member_0 rfl (ss_il0 C dL_member_1 rfl (ss_il0 C dL_member_2 rfl (ss_xc (hh := hh_member) k_rc0 C T dL_member_3 kc_RL_44 rfl h hx rfl (fun As M e h => by
    have hE := fe_member As M e h
    rcases hE with hE | hE
    · rw [hE]
      exact ⟨[], ⟨0, 6, 7, 15⟩, [⟨0, 6, 12, 17⟩], rfl, (fun z hz => absurd hz List.not_mem_nil), by decide, by decide, (k_gm 393 (by decide +kernel) (by decide +kernel)), by decide, by rw [tt_th, if_pos rfl]; exact (ss_as0 Cb dL_member_7 rfl (by decide) (ss_sp Cb dL_member_8 (by decide) (ss_ir Cb E dL_member_11)))⟩
    · rw [hE]
      exact ⟨[⟨0, 6, 7, 15⟩], ⟨0, 6, 12, 17⟩, [], rfl, (fun z hz => by
        simp only [List.mem_cons, List.not_mem_nil, or_false] at hz
        subst hz
        · exact Or.inr ⟨by decide, k_IOE, (k_gm 393 (by decide +kernel) (by decide +kernel)), by decide⟩), by decide, by decide, (k_gm 394 (by decide +kernel) (by decide +kernel)), by decide, by rw [tt_th, if_neg (by decide), tt_th, if_pos rfl]; exact (ss_as0 Cb dL_member_12 rfl (by decide) (ss_sp Cb dL_member_13 (by decide) (ss_ir Cb E dL_member_16)))⟩
    ) (ss_ir Cb E dL_member_6)))))
theorem SN_L_member {ad : Nat → Nat} {X : Cx} {res : Rs} (C : k_C ad X cL_member RL 4 8 134) (E : k_E ad X (some .int) res) (h : kv_X3_member ad X (sp_II f_member)) : Sd ad X 0 (TN_L_member ad res (sp_II f_member)) := by
  unfold TN_L_member
  exact (ss_al0 C dL_member_0 rfl (ss_il0 C dL_member_1 rfl (ss_il0 C dL_member_2 rfl (ss_cv k_rc0 C dL_member_3 kc_RL_44 rfl h rfl (ss_ir C E dL_member_6)))))
theorem pw_member (ad : Nat → Nat) (x0 : Int32) (x1 : Int32) (M : Mm) (r : Rs) (h : wX [(k_IOE, (-903)), (k_IAE, (-901))] (f_member x0 x1 M) = some r) : T_L_member ad r (sp_II f_member) [some (.ref (ad 0)), some (.int x0), some (.int x1), none] [] M := by
  unfold wX at h
  split at h
  · next v M1 hF =>
    cases h
    simp only [T_L_member, tt_xc, tt_c, tt_lc, tt_il, tt_ll, tt_al, tt_is, tt_lsv, tt_as, tt_inc, tt_add, tt_sub, tt_mul, tt_and, tt_ladd, tt_lmul, tt_i2l, tt_lcmp, tt_dupr, tt_dup2, tt_eq0, tt_lt0, tt_le0, tt_ge0, tt_gt0, tt_eq2, tt_lt2, tt_ge2, tt_gt2, tt_le2, tt_gr, tt_gi, tt_pi, tt_gl, tt_pl, tt_ia, tt_st, tt_ir, tt_zr, tt_lr, tt_vr, tt_cv, tt_cs, tt_max, tt_min, tt_rem, tt_xor, tt_len, tt_cp, tt_thr, tt_xv, tt_xs, k_sv, k_cl, k_kz, List.getElem?_cons_zero, List.getElem?_cons_succ, List.drop_succ_cons, List.drop_zero, List.take_succ_cons, List.take_zero, List.reverse_cons, List.reverse_nil, List.nil_append, List.cons_append, List.length_cons, List.length_nil, Option.toList_some, Option.toList_none, Nat.reduceAdd, Nat.reduceLeDiff, true_and, and_true, sp_I, sp_II, sp_III, sp_JI, sp_JJ, sp_R2, sp_R5I, sp_V, hF]
  · next E M1 hF =>
    have hE : sp_II f_member [.int x0, .int x1] M = some (.inr (E, M1)) := hF
    have hE := fe_member _ _ _ hE
    simp only [T_L_member, tt_xc, tt_c, tt_lc, tt_il, tt_ll, tt_al, tt_is, tt_lsv, tt_as, tt_inc, tt_add, tt_sub, tt_mul, tt_and, tt_ladd, tt_lmul, tt_i2l, tt_lcmp, tt_dupr, tt_dup2, tt_eq0, tt_lt0, tt_le0, tt_ge0, tt_gt0, tt_eq2, tt_lt2, tt_ge2, tt_gt2, tt_le2, tt_gr, tt_gi, tt_pi, tt_gl, tt_pl, tt_ia, tt_st, tt_ir, tt_zr, tt_lr, tt_vr, tt_cv, tt_cs, tt_max, tt_min, tt_rem, tt_xor, tt_len, tt_cp, tt_thr, tt_xv, tt_xs, k_sv, k_cl, k_kz, List.getElem?_cons_zero, List.getElem?_cons_succ, List.drop_succ_cons, List.drop_zero, List.take_succ_cons, List.take_zero, List.reverse_cons, List.reverse_nil, List.nil_append, List.cons_append, List.length_cons, List.length_nil, Option.toList_some, Option.toList_none, Nat.reduceAdd, Nat.reduceLeDiff, true_and, and_true, sp_I, sp_II, sp_III, sp_JI, sp_JJ, sp_R2, sp_R5I, sp_V, hF]
    intro q
    dsimp only at hE
    rcases hE with rfl | rfl
    · rw [wE, if_pos rfl] at h
      cases h
      rw [tt_th, if_pos rfl]
      simp only [tt_c, tt_lc, tt_il, tt_ll, tt_al, tt_is, tt_lsv, tt_as, tt_inc, tt_add, tt_sub, tt_mul, tt_and, tt_ladd, tt_lmul, tt_i2l, tt_lcmp, tt_dupr, tt_dup2, tt_eq0, tt_lt0, tt_le0, tt_ge0, tt_gt0, tt_eq2, tt_lt2, tt_ge2, tt_gt2, tt_le2, tt_gr, tt_gi, tt_pi, tt_gl, tt_pl, tt_ia, tt_st, tt_ir, tt_zr, tt_lr, tt_vr, tt_cv, tt_cs, tt_max, tt_min, tt_rem, tt_xor, tt_len, tt_cp, tt_thr, tt_xv, tt_xs, k_sv, k_cl, k_kz, List.getElem?_cons_zero, List.getElem?_cons_succ, List.drop_succ_cons, List.drop_zero, List.take_succ_cons, List.take_zero, List.reverse_cons, List.reverse_nil, List.nil_append, List.cons_append, List.length_cons, List.length_nil, Option.toList_some, Option.toList_none, Nat.reduceAdd, Nat.reduceLeDiff, true_and, and_true, sp_I, sp_II, sp_III, sp_JI, sp_JJ, sp_R2, sp_R5I, sp_V]
    · rw [wE, if_neg (show ¬ k_IAE = k_IOE by decide), wE, if_pos rfl] at h
      cases h
      rw [tt_th, if_neg (show ¬ k_IAE = k_IOE by decide), tt_th, if_pos rfl]
      simp only [tt_c, tt_lc, tt_il, tt_ll, tt_al, tt_is, tt_lsv, tt_as, tt_inc, tt_add, tt_sub, tt_mul, tt_and, tt_ladd, tt_lmul, tt_i2l, tt_lcmp, tt_dupr, tt_dup2, tt_eq0, tt_lt0, tt_le0, tt_ge0, tt_gt0, tt_eq2, tt_lt2, tt_ge2, tt_gt2, tt_le2, tt_gr, tt_gi, tt_pi, tt_gl, tt_pl, tt_ia, tt_st, tt_ir, tt_zr, tt_lr, tt_vr, tt_cv, tt_cs, tt_max, tt_min, tt_rem, tt_xor, tt_len, tt_cp, tt_thr, tt_xv, tt_xs, k_sv, k_cl, k_kz, List.getElem?_cons_zero, List.getElem?_cons_succ, List.drop_succ_cons, List.drop_zero, List.take_succ_cons, List.take_zero, List.reverse_cons, List.reverse_nil, List.nil_append, List.cons_append, List.length_cons, List.length_nil, Option.toList_some, Option.toList_none, Nat.reduceAdd, Nat.reduceLeDiff, true_and, and_true, sp_I, sp_II, sp_III, sp_JI, sp_JJ, sp_R2, sp_R5I, sp_V]
  · cases h
theorem pn_member (ad : Nat → Nat) (x0 : Int32) (x1 : Int32) (M : Mm) (r : Rs) (h : wN (f_member x0 x1 M) = some r) : TN_L_member ad r (sp_II f_member) [some (.ref (ad 0)), some (.int x0), some (.int x1), none] [] M := by
  unfold wN at h
  split at h
  · next v M1 hF =>
    cases h
    simp only [TN_L_member, tt_c, tt_lc, tt_il, tt_ll, tt_al, tt_is, tt_lsv, tt_as, tt_inc, tt_add, tt_sub, tt_mul, tt_and, tt_ladd, tt_lmul, tt_i2l, tt_lcmp, tt_dupr, tt_dup2, tt_eq0, tt_lt0, tt_le0, tt_ge0, tt_gt0, tt_eq2, tt_lt2, tt_ge2, tt_gt2, tt_le2, tt_gr, tt_gi, tt_pi, tt_gl, tt_pl, tt_ia, tt_st, tt_ir, tt_zr, tt_lr, tt_vr, tt_cv, tt_cs, tt_max, tt_min, tt_rem, tt_xor, tt_len, tt_cp, tt_thr, tt_xv, tt_xs, k_sv, k_cl, k_kz, List.getElem?_cons_zero, List.getElem?_cons_succ, List.drop_succ_cons, List.drop_zero, List.take_succ_cons, List.take_zero, List.reverse_cons, List.reverse_nil, List.nil_append, List.cons_append, List.length_cons, List.length_nil, Option.toList_some, Option.toList_none, Nat.reduceAdd, Nat.reduceLeDiff, true_and, and_true, sp_I, sp_II, sp_III, sp_JI, sp_JJ, sp_R2, sp_R5I, sp_V, hF]
  · cases h
def sw_member (ad : Nat → Nat) : Sp := fun As M => match As with
  | [.ref a0, .int x0, .int x1] => if a0 = ad 0 then wX [(k_IOE, (-903)), (k_IAE, (-901))] (f_member x0 x1 M) else none
  | _ => none
def sn_member (ad : Nat → Nat) : Sp := fun As M => match As with
  | [.ref a0, .int x0, .int x1] => if a0 = ad 0 then wN (f_member x0 x1 M) else none
  | _ => none
theorem wr_member {l : Launch} {ad : Nat → Nat} {D : va_G} {cI cL : ClassId} (hI : k_I ad) (hf : l.stackTraces = false) : k_Wr l ad D cI cL yL_member cL_member 4 hh_member 8 134 (sw_member ad) :=
  k_wr (tree := fun r => T_L_member ad r (sp_II f_member)) hI (by decide +kernel) (fun X res hl hD C E T => S_L_member C E T (k_cvOf hl hD (cc_X3_member hI hf).1) (k_ctOf hl hD (cc_X3_member hI hf).2)) (fun As M r hF => by
    unfold sw_member at hF
    split at hF
    · split at hF
      · next hc =>
        obtain rfl := hc
        exact ⟨Nat.le_of_ble_eq_true rfl, _, k_inL rfl, pw_member ad _ _ M _ hF⟩
      · cases hF
    · cases hF)
theorem wn_member {l : Launch} {ad : Nat → Nat} {D : va_G} {cI cL : ClassId} (hI : k_I ad) (hf : l.stackTraces = false) : k_WrN l ad D cI cL yL_member cL_member 4 hh_member 8 134 (sn_member ad) :=
  k_wrN (tree := fun r => TN_L_member ad r (sp_II f_member)) hI (by decide +kernel) (fun X res hl hD C E => SN_L_member C E (k_cvOf hl hD (cc_X3_member hI hf).1)) (fun As M r hF => by
    unfold sn_member at hF
    split at hF
    · split at hF
      · next hc =>
        obtain rfl := hc
        exact ⟨Nat.le_of_ble_eq_true rfl, _, k_inL rfl, pn_member ad _ _ M _ hF⟩
      · cases hF
    · cases hF)
abbrev hh_parent : List (Nat × Nat × Nat × Nat) := [(0, 6, 7, 15), (0, 6, 12, 19)]
theorem fe_parent (As : List Value) (M : Mm) (e : String × Mm) (h : sp_II f_parent As M = some (.inr e)) : e.1 = k_IOE ∨ e.1 = k_ISE := by
  unfold sp_II at h
  split at h
  · simp only [f_parent, q_ms] at h
    (repeat' split at h) <;> first | (cases h; done) | (cases h; simp)
  · cases h
def T_L_parent (ad : Nat → Nat) (res : Rs) (F : Sp) : Tr := (tt_al 0 (tt_il 1 (tt_il 2 (tt_xc ad 0 2 F (tt_ir res) (tt_th [(k_IOE, (tt_as 3 (tt_c (-903) (tt_ir res)))), (k_ISE, (tt_as 3 (tt_c (-902) (tt_ir res))))])))))
def TN_L_parent (ad : Nat → Nat) (res : Rs) (F : Sp) : Tr := (tt_al 0 (tt_il 1 (tt_il 2 (tt_cv ad 0 2 F (tt_ir res)))))
theorem S_L_parent {ad : Nat → Nat} {X : Cx} {res : Rs} (C : k_C ad X cL_parent RL 4 8 133) (E : k_E ad (k_bump X) (some .int) res) (T : k_TW X hh_parent) (h : kv_X3_parent ad X (sp_II f_parent)) (hx : kt_X3_parent ad X (sp_II f_parent)) : Sd ad X 0 (T_L_parent ad res (sp_II f_parent)) := by
  have Cb := k_Cb C T
  unfold T_L_parent
  exact (ss_al0 C dL_parent_0 rfl (ss_il0 C dL_parent_1 rfl (ss_il0 C dL_parent_2 rfl (ss_xc (hh := hh_parent) k_rc0 C T dL_parent_3 kc_RL_47 rfl h hx rfl (fun As M e h => by
    have hE := fe_parent As M e h
    rcases hE with hE | hE
    · rw [hE]
      exact ⟨[], ⟨0, 6, 7, 15⟩, [⟨0, 6, 12, 19⟩], rfl, (fun z hz => absurd hz List.not_mem_nil), by decide, by decide, (k_gm 393 (by decide +kernel) (by decide +kernel)), by decide, by rw [tt_th, if_pos rfl]; exact (ss_as0 Cb dL_parent_7 rfl (by decide) (ss_sp Cb dL_parent_8 (by decide) (ss_ir Cb E dL_parent_11)))⟩
    · rw [hE]
      exact ⟨[⟨0, 6, 7, 15⟩], ⟨0, 6, 12, 19⟩, [], rfl, (fun z hz => by
        simp only [List.mem_cons, List.not_mem_nil, or_false] at hz
        subst hz
        · exact Or.inr ⟨by decide, k_IOE, (k_gm 393 (by decide +kernel) (by decide +kernel)), by decide⟩), by decide, by decide, (k_gm 395 (by decide +kernel) (by decide +kernel)), by decide, by rw [tt_th, if_neg (by decide), tt_th, if_pos rfl]; exact (ss_as0 Cb dL_parent_12 rfl (by decide) (ss_sp Cb dL_parent_13 (by decide) (ss_ir Cb E dL_parent_16)))⟩
    ) (ss_ir Cb E dL_parent_6)))))
theorem SN_L_parent {ad : Nat → Nat} {X : Cx} {res : Rs} (C : k_C ad X cL_parent RL 4 8 133) (E : k_E ad X (some .int) res) (h : kv_X3_parent ad X (sp_II f_parent)) : Sd ad X 0 (TN_L_parent ad res (sp_II f_parent)) := by
  unfold TN_L_parent
  exact (ss_al0 C dL_parent_0 rfl (ss_il0 C dL_parent_1 rfl (ss_il0 C dL_parent_2 rfl (ss_cv k_rc0 C dL_parent_3 kc_RL_47 rfl h rfl (ss_ir C E dL_parent_6)))))
theorem pw_parent (ad : Nat → Nat) (x0 : Int32) (x1 : Int32) (M : Mm) (r : Rs) (h : wX [(k_IOE, (-903)), (k_ISE, (-902))] (f_parent x0 x1 M) = some r) : T_L_parent ad r (sp_II f_parent) [some (.ref (ad 0)), some (.int x0), some (.int x1), none] [] M := by
  unfold wX at h
  split at h
  · next v M1 hF =>
    cases h
    simp only [T_L_parent, tt_xc, tt_c, tt_lc, tt_il, tt_ll, tt_al, tt_is, tt_lsv, tt_as, tt_inc, tt_add, tt_sub, tt_mul, tt_and, tt_ladd, tt_lmul, tt_i2l, tt_lcmp, tt_dupr, tt_dup2, tt_eq0, tt_lt0, tt_le0, tt_ge0, tt_gt0, tt_eq2, tt_lt2, tt_ge2, tt_gt2, tt_le2, tt_gr, tt_gi, tt_pi, tt_gl, tt_pl, tt_ia, tt_st, tt_ir, tt_zr, tt_lr, tt_vr, tt_cv, tt_cs, tt_max, tt_min, tt_rem, tt_xor, tt_len, tt_cp, tt_thr, tt_xv, tt_xs, k_sv, k_cl, k_kz, List.getElem?_cons_zero, List.getElem?_cons_succ, List.drop_succ_cons, List.drop_zero, List.take_succ_cons, List.take_zero, List.reverse_cons, List.reverse_nil, List.nil_append, List.cons_append, List.length_cons, List.length_nil, Option.toList_some, Option.toList_none, Nat.reduceAdd, Nat.reduceLeDiff, true_and, and_true, sp_I, sp_II, sp_III, sp_JI, sp_JJ, sp_R2, sp_R5I, sp_V, hF]
  · next E M1 hF =>
    have hE : sp_II f_parent [.int x0, .int x1] M = some (.inr (E, M1)) := hF
    have hE := fe_parent _ _ _ hE
    simp only [T_L_parent, tt_xc, tt_c, tt_lc, tt_il, tt_ll, tt_al, tt_is, tt_lsv, tt_as, tt_inc, tt_add, tt_sub, tt_mul, tt_and, tt_ladd, tt_lmul, tt_i2l, tt_lcmp, tt_dupr, tt_dup2, tt_eq0, tt_lt0, tt_le0, tt_ge0, tt_gt0, tt_eq2, tt_lt2, tt_ge2, tt_gt2, tt_le2, tt_gr, tt_gi, tt_pi, tt_gl, tt_pl, tt_ia, tt_st, tt_ir, tt_zr, tt_lr, tt_vr, tt_cv, tt_cs, tt_max, tt_min, tt_rem, tt_xor, tt_len, tt_cp, tt_thr, tt_xv, tt_xs, k_sv, k_cl, k_kz, List.getElem?_cons_zero, List.getElem?_cons_succ, List.drop_succ_cons, List.drop_zero, List.take_succ_cons, List.take_zero, List.reverse_cons, List.reverse_nil, List.nil_append, List.cons_append, List.length_cons, List.length_nil, Option.toList_some, Option.toList_none, Nat.reduceAdd, Nat.reduceLeDiff, true_and, and_true, sp_I, sp_II, sp_III, sp_JI, sp_JJ, sp_R2, sp_R5I, sp_V, hF]
    intro q
    dsimp only at hE
    rcases hE with rfl | rfl
    · rw [wE, if_pos rfl] at h
      cases h
      rw [tt_th, if_pos rfl]
      simp only [tt_c, tt_lc, tt_il, tt_ll, tt_al, tt_is, tt_lsv, tt_as, tt_inc, tt_add, tt_sub, tt_mul, tt_and, tt_ladd, tt_lmul, tt_i2l, tt_lcmp, tt_dupr, tt_dup2, tt_eq0, tt_lt0, tt_le0, tt_ge0, tt_gt0, tt_eq2, tt_lt2, tt_ge2, tt_gt2, tt_le2, tt_gr, tt_gi, tt_pi, tt_gl, tt_pl, tt_ia, tt_st, tt_ir, tt_zr, tt_lr, tt_vr, tt_cv, tt_cs, tt_max, tt_min, tt_rem, tt_xor, tt_len, tt_cp, tt_thr, tt_xv, tt_xs, k_sv, k_cl, k_kz, List.getElem?_cons_zero, List.getElem?_cons_succ, List.drop_succ_cons, List.drop_zero, List.take_succ_cons, List.take_zero, List.reverse_cons, List.reverse_nil, List.nil_append, List.cons_append, List.length_cons, List.length_nil, Option.toList_some, Option.toList_none, Nat.reduceAdd, Nat.reduceLeDiff, true_and, and_true, sp_I, sp_II, sp_III, sp_JI, sp_JJ, sp_R2, sp_R5I, sp_V]
    · rw [wE, if_neg (show ¬ k_ISE = k_IOE by decide), wE, if_pos rfl] at h
      cases h
      rw [tt_th, if_neg (show ¬ k_ISE = k_IOE by decide), tt_th, if_pos rfl]
      simp only [tt_c, tt_lc, tt_il, tt_ll, tt_al, tt_is, tt_lsv, tt_as, tt_inc, tt_add, tt_sub, tt_mul, tt_and, tt_ladd, tt_lmul, tt_i2l, tt_lcmp, tt_dupr, tt_dup2, tt_eq0, tt_lt0, tt_le0, tt_ge0, tt_gt0, tt_eq2, tt_lt2, tt_ge2, tt_gt2, tt_le2, tt_gr, tt_gi, tt_pi, tt_gl, tt_pl, tt_ia, tt_st, tt_ir, tt_zr, tt_lr, tt_vr, tt_cv, tt_cs, tt_max, tt_min, tt_rem, tt_xor, tt_len, tt_cp, tt_thr, tt_xv, tt_xs, k_sv, k_cl, k_kz, List.getElem?_cons_zero, List.getElem?_cons_succ, List.drop_succ_cons, List.drop_zero, List.take_succ_cons, List.take_zero, List.reverse_cons, List.reverse_nil, List.nil_append, List.cons_append, List.length_cons, List.length_nil, Option.toList_some, Option.toList_none, Nat.reduceAdd, Nat.reduceLeDiff, true_and, and_true, sp_I, sp_II, sp_III, sp_JI, sp_JJ, sp_R2, sp_R5I, sp_V]
  · cases h
theorem pn_parent (ad : Nat → Nat) (x0 : Int32) (x1 : Int32) (M : Mm) (r : Rs) (h : wN (f_parent x0 x1 M) = some r) : TN_L_parent ad r (sp_II f_parent) [some (.ref (ad 0)), some (.int x0), some (.int x1), none] [] M := by
  unfold wN at h
  split at h
  · next v M1 hF =>
    cases h
    simp only [TN_L_parent, tt_c, tt_lc, tt_il, tt_ll, tt_al, tt_is, tt_lsv, tt_as, tt_inc, tt_add, tt_sub, tt_mul, tt_and, tt_ladd, tt_lmul, tt_i2l, tt_lcmp, tt_dupr, tt_dup2, tt_eq0, tt_lt0, tt_le0, tt_ge0, tt_gt0, tt_eq2, tt_lt2, tt_ge2, tt_gt2, tt_le2, tt_gr, tt_gi, tt_pi, tt_gl, tt_pl, tt_ia, tt_st, tt_ir, tt_zr, tt_lr, tt_vr, tt_cv, tt_cs, tt_max, tt_min, tt_rem, tt_xor, tt_len, tt_cp, tt_thr, tt_xv, tt_xs, k_sv, k_cl, k_kz, List.getElem?_cons_zero, List.getElem?_cons_succ, List.drop_succ_cons, List.drop_zero, List.take_succ_cons, List.take_zero, List.reverse_cons, List.reverse_nil, List.nil_append, List.cons_append, List.length_cons, List.length_nil, Option.toList_some, Option.toList_none, Nat.reduceAdd, Nat.reduceLeDiff, true_and, and_true, sp_I, sp_II, sp_III, sp_JI, sp_JJ, sp_R2, sp_R5I, sp_V, hF]
  · cases h
def sw_parent (ad : Nat → Nat) : Sp := fun As M => match As with
  | [.ref a0, .int x0, .int x1] => if a0 = ad 0 then wX [(k_IOE, (-903)), (k_ISE, (-902))] (f_parent x0 x1 M) else none
  | _ => none
def sn_parent (ad : Nat → Nat) : Sp := fun As M => match As with
  | [.ref a0, .int x0, .int x1] => if a0 = ad 0 then wN (f_parent x0 x1 M) else none
  | _ => none
theorem wr_parent {l : Launch} {ad : Nat → Nat} {D : va_G} {cI cL : ClassId} (hI : k_I ad) (hf : l.stackTraces = false) : k_Wr l ad D cI cL yL_parent cL_parent 4 hh_parent 8 133 (sw_parent ad) :=
  k_wr (tree := fun r => T_L_parent ad r (sp_II f_parent)) hI (by decide +kernel) (fun X res hl hD C E T => S_L_parent C E T (k_cvOf hl hD (cc_X3_parent hI hf).1) (k_ctOf hl hD (cc_X3_parent hI hf).2)) (fun As M r hF => by
    unfold sw_parent at hF
    split at hF
    · split at hF
      · next hc =>
        obtain rfl := hc
        exact ⟨Nat.le_of_ble_eq_true rfl, _, k_inL rfl, pw_parent ad _ _ M _ hF⟩
      · cases hF
    · cases hF)
theorem wn_parent {l : Launch} {ad : Nat → Nat} {D : va_G} {cI cL : ClassId} (hI : k_I ad) (hf : l.stackTraces = false) : k_WrN l ad D cI cL yL_parent cL_parent 4 hh_parent 8 133 (sn_parent ad) :=
  k_wrN (tree := fun r => TN_L_parent ad r (sp_II f_parent)) hI (by decide +kernel) (fun X res hl hD C E => SN_L_parent C E (k_cvOf hl hD (cc_X3_parent hI hf).1)) (fun As M r hF => by
    unfold sn_parent at hF
    split at hF
    · split at hF
      · next hc =>
        obtain rfl := hc
        exact ⟨Nat.le_of_ble_eq_true rfl, _, k_inL rfl, pn_parent ad _ _ M _ hF⟩
      · cases hF
    · cases hF)
abbrev hh_depth : List (Nat × Nat × Nat × Nat) := [(0, 6, 7, 15), (0, 6, 12, 19)]
theorem fe_depth (As : List Value) (M : Mm) (e : String × Mm) (h : sp_II f_depth As M = some (.inr e)) : e.1 = k_IOE ∨ e.1 = k_ISE := by
  unfold sp_II at h
  split at h
  · simp only [f_depth, q_ms] at h
    (repeat' split at h) <;> first | (cases h; done) | (cases h; simp)
  · cases h
def T_L_depth (ad : Nat → Nat) (res : Rs) (F : Sp) : Tr := (tt_al 0 (tt_il 1 (tt_il 2 (tt_xc ad 0 2 F (tt_ir res) (tt_th [(k_IOE, (tt_as 3 (tt_c (-903) (tt_ir res)))), (k_ISE, (tt_as 3 (tt_c (-902) (tt_ir res))))])))))
def TN_L_depth (ad : Nat → Nat) (res : Rs) (F : Sp) : Tr := (tt_al 0 (tt_il 1 (tt_il 2 (tt_cv ad 0 2 F (tt_ir res)))))
theorem S_L_depth {ad : Nat → Nat} {X : Cx} {res : Rs} (C : k_C ad X cL_depth RL 4 8 133) (E : k_E ad (k_bump X) (some .int) res) (T : k_TW X hh_depth) (h : kv_X3_depth ad X (sp_II f_depth)) (hx : kt_X3_depth ad X (sp_II f_depth)) : Sd ad X 0 (T_L_depth ad res (sp_II f_depth)) := by
  have Cb := k_Cb C T
  unfold T_L_depth
  exact (ss_al0 C dL_depth_0 rfl (ss_il0 C dL_depth_1 rfl (ss_il0 C dL_depth_2 rfl (ss_xc (hh := hh_depth) k_rc0 C T dL_depth_3 kc_RL_50 rfl h hx rfl (fun As M e h => by
    have hE := fe_depth As M e h
    rcases hE with hE | hE
    · rw [hE]
      exact ⟨[], ⟨0, 6, 7, 15⟩, [⟨0, 6, 12, 19⟩], rfl, (fun z hz => absurd hz List.not_mem_nil), by decide, by decide, (k_gm 393 (by decide +kernel) (by decide +kernel)), by decide, by rw [tt_th, if_pos rfl]; exact (ss_as0 Cb dL_depth_7 rfl (by decide) (ss_sp Cb dL_depth_8 (by decide) (ss_ir Cb E dL_depth_11)))⟩
    · rw [hE]
      exact ⟨[⟨0, 6, 7, 15⟩], ⟨0, 6, 12, 19⟩, [], rfl, (fun z hz => by
        simp only [List.mem_cons, List.not_mem_nil, or_false] at hz
        subst hz
        · exact Or.inr ⟨by decide, k_IOE, (k_gm 393 (by decide +kernel) (by decide +kernel)), by decide⟩), by decide, by decide, (k_gm 395 (by decide +kernel) (by decide +kernel)), by decide, by rw [tt_th, if_neg (by decide), tt_th, if_pos rfl]; exact (ss_as0 Cb dL_depth_12 rfl (by decide) (ss_sp Cb dL_depth_13 (by decide) (ss_ir Cb E dL_depth_16)))⟩
    ) (ss_ir Cb E dL_depth_6)))))
theorem SN_L_depth {ad : Nat → Nat} {X : Cx} {res : Rs} (C : k_C ad X cL_depth RL 4 8 133) (E : k_E ad X (some .int) res) (h : kv_X3_depth ad X (sp_II f_depth)) : Sd ad X 0 (TN_L_depth ad res (sp_II f_depth)) := by
  unfold TN_L_depth
  exact (ss_al0 C dL_depth_0 rfl (ss_il0 C dL_depth_1 rfl (ss_il0 C dL_depth_2 rfl (ss_cv k_rc0 C dL_depth_3 kc_RL_50 rfl h rfl (ss_ir C E dL_depth_6)))))
theorem pw_depth (ad : Nat → Nat) (x0 : Int32) (x1 : Int32) (M : Mm) (r : Rs) (h : wX [(k_IOE, (-903)), (k_ISE, (-902))] (f_depth x0 x1 M) = some r) : T_L_depth ad r (sp_II f_depth) [some (.ref (ad 0)), some (.int x0), some (.int x1), none] [] M := by
  unfold wX at h
  split at h
  · next v M1 hF =>
    cases h
    simp only [T_L_depth, tt_xc, tt_c, tt_lc, tt_il, tt_ll, tt_al, tt_is, tt_lsv, tt_as, tt_inc, tt_add, tt_sub, tt_mul, tt_and, tt_ladd, tt_lmul, tt_i2l, tt_lcmp, tt_dupr, tt_dup2, tt_eq0, tt_lt0, tt_le0, tt_ge0, tt_gt0, tt_eq2, tt_lt2, tt_ge2, tt_gt2, tt_le2, tt_gr, tt_gi, tt_pi, tt_gl, tt_pl, tt_ia, tt_st, tt_ir, tt_zr, tt_lr, tt_vr, tt_cv, tt_cs, tt_max, tt_min, tt_rem, tt_xor, tt_len, tt_cp, tt_thr, tt_xv, tt_xs, k_sv, k_cl, k_kz, List.getElem?_cons_zero, List.getElem?_cons_succ, List.drop_succ_cons, List.drop_zero, List.take_succ_cons, List.take_zero, List.reverse_cons, List.reverse_nil, List.nil_append, List.cons_append, List.length_cons, List.length_nil, Option.toList_some, Option.toList_none, Nat.reduceAdd, Nat.reduceLeDiff, true_and, and_true, sp_I, sp_II, sp_III, sp_JI, sp_JJ, sp_R2, sp_R5I, sp_V, hF]
  · next E M1 hF =>
    have hE : sp_II f_depth [.int x0, .int x1] M = some (.inr (E, M1)) := hF
    have hE := fe_depth _ _ _ hE
    simp only [T_L_depth, tt_xc, tt_c, tt_lc, tt_il, tt_ll, tt_al, tt_is, tt_lsv, tt_as, tt_inc, tt_add, tt_sub, tt_mul, tt_and, tt_ladd, tt_lmul, tt_i2l, tt_lcmp, tt_dupr, tt_dup2, tt_eq0, tt_lt0, tt_le0, tt_ge0, tt_gt0, tt_eq2, tt_lt2, tt_ge2, tt_gt2, tt_le2, tt_gr, tt_gi, tt_pi, tt_gl, tt_pl, tt_ia, tt_st, tt_ir, tt_zr, tt_lr, tt_vr, tt_cv, tt_cs, tt_max, tt_min, tt_rem, tt_xor, tt_len, tt_cp, tt_thr, tt_xv, tt_xs, k_sv, k_cl, k_kz, List.getElem?_cons_zero, List.getElem?_cons_succ, List.drop_succ_cons, List.drop_zero, List.take_succ_cons, List.take_zero, List.reverse_cons, List.reverse_nil, List.nil_append, List.cons_append, List.length_cons, List.length_nil, Option.toList_some, Option.toList_none, Nat.reduceAdd, Nat.reduceLeDiff, true_and, and_true, sp_I, sp_II, sp_III, sp_JI, sp_JJ, sp_R2, sp_R5I, sp_V, hF]
    intro q
    dsimp only at hE
    rcases hE with rfl | rfl
    · rw [wE, if_pos rfl] at h
      cases h
      rw [tt_th, if_pos rfl]
      simp only [tt_c, tt_lc, tt_il, tt_ll, tt_al, tt_is, tt_lsv, tt_as, tt_inc, tt_add, tt_sub, tt_mul, tt_and, tt_ladd, tt_lmul, tt_i2l, tt_lcmp, tt_dupr, tt_dup2, tt_eq0, tt_lt0, tt_le0, tt_ge0, tt_gt0, tt_eq2, tt_lt2, tt_ge2, tt_gt2, tt_le2, tt_gr, tt_gi, tt_pi, tt_gl, tt_pl, tt_ia, tt_st, tt_ir, tt_zr, tt_lr, tt_vr, tt_cv, tt_cs, tt_max, tt_min, tt_rem, tt_xor, tt_len, tt_cp, tt_thr, tt_xv, tt_xs, k_sv, k_cl, k_kz, List.getElem?_cons_zero, List.getElem?_cons_succ, List.drop_succ_cons, List.drop_zero, List.take_succ_cons, List.take_zero, List.reverse_cons, List.reverse_nil, List.nil_append, List.cons_append, List.length_cons, List.length_nil, Option.toList_some, Option.toList_none, Nat.reduceAdd, Nat.reduceLeDiff, true_and, and_true, sp_I, sp_II, sp_III, sp_JI, sp_JJ, sp_R2, sp_R5I, sp_V]
    · rw [wE, if_neg (show ¬ k_ISE = k_IOE by decide), wE, if_pos rfl] at h
      cases h
      rw [tt_th, if_neg (show ¬ k_ISE = k_IOE by decide), tt_th, if_pos rfl]
      simp only [tt_c, tt_lc, tt_il, tt_ll, tt_al, tt_is, tt_lsv, tt_as, tt_inc, tt_add, tt_sub, tt_mul, tt_and, tt_ladd, tt_lmul, tt_i2l, tt_lcmp, tt_dupr, tt_dup2, tt_eq0, tt_lt0, tt_le0, tt_ge0, tt_gt0, tt_eq2, tt_lt2, tt_ge2, tt_gt2, tt_le2, tt_gr, tt_gi, tt_pi, tt_gl, tt_pl, tt_ia, tt_st, tt_ir, tt_zr, tt_lr, tt_vr, tt_cv, tt_cs, tt_max, tt_min, tt_rem, tt_xor, tt_len, tt_cp, tt_thr, tt_xv, tt_xs, k_sv, k_cl, k_kz, List.getElem?_cons_zero, List.getElem?_cons_succ, List.drop_succ_cons, List.drop_zero, List.take_succ_cons, List.take_zero, List.reverse_cons, List.reverse_nil, List.nil_append, List.cons_append, List.length_cons, List.length_nil, Option.toList_some, Option.toList_none, Nat.reduceAdd, Nat.reduceLeDiff, true_and, and_true, sp_I, sp_II, sp_III, sp_JI, sp_JJ, sp_R2, sp_R5I, sp_V]
  · cases h
theorem pn_depth (ad : Nat → Nat) (x0 : Int32) (x1 : Int32) (M : Mm) (r : Rs) (h : wN (f_depth x0 x1 M) = some r) : TN_L_depth ad r (sp_II f_depth) [some (.ref (ad 0)), some (.int x0), some (.int x1), none] [] M := by
  unfold wN at h
  split at h
  · next v M1 hF =>
    cases h
    simp only [TN_L_depth, tt_c, tt_lc, tt_il, tt_ll, tt_al, tt_is, tt_lsv, tt_as, tt_inc, tt_add, tt_sub, tt_mul, tt_and, tt_ladd, tt_lmul, tt_i2l, tt_lcmp, tt_dupr, tt_dup2, tt_eq0, tt_lt0, tt_le0, tt_ge0, tt_gt0, tt_eq2, tt_lt2, tt_ge2, tt_gt2, tt_le2, tt_gr, tt_gi, tt_pi, tt_gl, tt_pl, tt_ia, tt_st, tt_ir, tt_zr, tt_lr, tt_vr, tt_cv, tt_cs, tt_max, tt_min, tt_rem, tt_xor, tt_len, tt_cp, tt_thr, tt_xv, tt_xs, k_sv, k_cl, k_kz, List.getElem?_cons_zero, List.getElem?_cons_succ, List.drop_succ_cons, List.drop_zero, List.take_succ_cons, List.take_zero, List.reverse_cons, List.reverse_nil, List.nil_append, List.cons_append, List.length_cons, List.length_nil, Option.toList_some, Option.toList_none, Nat.reduceAdd, Nat.reduceLeDiff, true_and, and_true, sp_I, sp_II, sp_III, sp_JI, sp_JJ, sp_R2, sp_R5I, sp_V, hF]
  · cases h
def sw_depth (ad : Nat → Nat) : Sp := fun As M => match As with
  | [.ref a0, .int x0, .int x1] => if a0 = ad 0 then wX [(k_IOE, (-903)), (k_ISE, (-902))] (f_depth x0 x1 M) else none
  | _ => none
def sn_depth (ad : Nat → Nat) : Sp := fun As M => match As with
  | [.ref a0, .int x0, .int x1] => if a0 = ad 0 then wN (f_depth x0 x1 M) else none
  | _ => none
theorem wr_depth {l : Launch} {ad : Nat → Nat} {D : va_G} {cI cL : ClassId} (hI : k_I ad) (hf : l.stackTraces = false) : k_Wr l ad D cI cL yL_depth cL_depth 4 hh_depth 8 133 (sw_depth ad) :=
  k_wr (tree := fun r => T_L_depth ad r (sp_II f_depth)) hI (by decide +kernel) (fun X res hl hD C E T => S_L_depth C E T (k_cvOf hl hD (cc_X3_depth hI hf).1) (k_ctOf hl hD (cc_X3_depth hI hf).2)) (fun As M r hF => by
    unfold sw_depth at hF
    split at hF
    · split at hF
      · next hc =>
        obtain rfl := hc
        exact ⟨Nat.le_of_ble_eq_true rfl, _, k_inL rfl, pw_depth ad _ _ M _ hF⟩
      · cases hF
    · cases hF)
theorem wn_depth {l : Launch} {ad : Nat → Nat} {D : va_G} {cI cL : ClassId} (hI : k_I ad) (hf : l.stackTraces = false) : k_WrN l ad D cI cL yL_depth cL_depth 4 hh_depth 8 133 (sn_depth ad) :=
  k_wrN (tree := fun r => TN_L_depth ad r (sp_II f_depth)) hI (by decide +kernel) (fun X res hl hD C E => SN_L_depth C E (k_cvOf hl hD (cc_X3_depth hI hf).1)) (fun As M r hF => by
    unfold sn_depth at hF
    split at hF
    · split at hF
      · next hc =>
        obtain rfl := hc
        exact ⟨Nat.le_of_ble_eq_true rfl, _, k_inL rfl, pn_depth ad _ _ M _ hF⟩
      · cases hF
    · cases hF)
abbrev hh_child : List (Nat × Nat × Nat × Nat) := [(0, 7, 8, 15), (0, 7, 14, 17), (0, 7, 20, 19)]
theorem fe_child (As : List Value) (M : Mm) (e : String × Mm) (h : sp_III f_child As M = some (.inr e)) : e.1 = k_IOE ∨ e.1 = k_IAE ∨ e.1 = k_ISE := by
  unfold sp_III at h
  split at h
  · simp only [f_child, q_ms] at h
    (repeat' split at h) <;> first | (cases h; done) | (cases h; simp)
  · cases h
def T_L_child (ad : Nat → Nat) (res : Rs) (F : Sp) : Tr := (tt_al 0 (tt_il 1 (tt_il 2 (tt_il 3 (tt_xc ad 0 3 F (tt_ir res) (tt_th [(k_IOE, (tt_as 4 (tt_c (-903) (tt_ir res)))), (k_IAE, (tt_as 4 (tt_c (-901) (tt_ir res)))), (k_ISE, (tt_as 4 (tt_c (-902) (tt_ir res))))]))))))
def TN_L_child (ad : Nat → Nat) (res : Rs) (F : Sp) : Tr := (tt_al 0 (tt_il 1 (tt_il 2 (tt_il 3 (tt_cv ad 0 3 F (tt_ir res))))))
theorem S_L_child {ad : Nat → Nat} {X : Cx} {res : Rs} (C : k_C ad X cL_child RL 5 9 155) (E : k_E ad (k_bump X) (some .int) res) (T : k_TW X hh_child) (h : kv_X3_child ad X (sp_III f_child)) (hx : kt_X3_child ad X (sp_III f_child)) : Sd ad X 0 (T_L_child ad res (sp_III f_child)) := by
  have Cb := k_Cb C T
  unfold T_L_child
  exact (ss_al0 C dL_child_0 rfl (ss_il0 C dL_child_1 rfl (ss_il0 C dL_child_2 rfl (ss_il0 C dL_child_3 rfl (ss_xc (hh := hh_child) k_rc0 C T dL_child_4 kc_RL_53 rfl h hx rfl (fun As M e h => by
    have hE := fe_child As M e h
    rcases hE with hE | hE | hE
    · rw [hE]
      exact ⟨[], ⟨0, 7, 8, 15⟩, [⟨0, 7, 14, 17⟩, ⟨0, 7, 20, 19⟩], rfl, (fun z hz => absurd hz List.not_mem_nil), by decide, by decide, (k_gm 393 (by decide +kernel) (by decide +kernel)), by decide, by rw [tt_th, if_pos rfl]; exact (ss_as Cb dL_child_8 (by decide) (ss_sp Cb dL_child_10 (by decide) (ss_ir Cb E dL_child_13)))⟩
    · rw [hE]
      exact ⟨[⟨0, 7, 8, 15⟩], ⟨0, 7, 14, 17⟩, [⟨0, 7, 20, 19⟩], rfl, (fun z hz => by
        simp only [List.mem_cons, List.not_mem_nil, or_false] at hz
        subst hz
        · exact Or.inr ⟨by decide, k_IOE, (k_gm 393 (by decide +kernel) (by decide +kernel)), by decide⟩), by decide, by decide, (k_gm 394 (by decide +kernel) (by decide +kernel)), by decide, by rw [tt_th, if_neg (by decide), tt_th, if_pos rfl]; exact (ss_as Cb dL_child_14 (by decide) (ss_sp Cb dL_child_16 (by decide) (ss_ir Cb E dL_child_19)))⟩
    · rw [hE]
      exact ⟨[⟨0, 7, 8, 15⟩, ⟨0, 7, 14, 17⟩], ⟨0, 7, 20, 19⟩, [], rfl, (fun z hz => by
        simp only [List.mem_cons, List.not_mem_nil, or_false] at hz
        rcases hz with rfl | rfl
        · exact Or.inr ⟨by decide, k_IOE, (k_gm 393 (by decide +kernel) (by decide +kernel)), by decide⟩
        · exact Or.inr ⟨by decide, k_IAE, (k_gm 394 (by decide +kernel) (by decide +kernel)), by decide⟩), by decide, by decide, (k_gm 395 (by decide +kernel) (by decide +kernel)), by decide, by rw [tt_th, if_neg (by decide), tt_th, if_neg (by decide), tt_th, if_pos rfl]; exact (ss_as Cb dL_child_20 (by decide) (ss_sp Cb dL_child_22 (by decide) (ss_ir Cb E dL_child_25)))⟩
    ) (ss_ir Cb E dL_child_7))))))
theorem SN_L_child {ad : Nat → Nat} {X : Cx} {res : Rs} (C : k_C ad X cL_child RL 5 9 155) (E : k_E ad X (some .int) res) (h : kv_X3_child ad X (sp_III f_child)) : Sd ad X 0 (TN_L_child ad res (sp_III f_child)) := by
  unfold TN_L_child
  exact (ss_al0 C dL_child_0 rfl (ss_il0 C dL_child_1 rfl (ss_il0 C dL_child_2 rfl (ss_il0 C dL_child_3 rfl (ss_cv k_rc0 C dL_child_4 kc_RL_53 rfl h rfl (ss_ir C E dL_child_7))))))
theorem pw_child (ad : Nat → Nat) (x0 : Int32) (x1 : Int32) (x2 : Int32) (M : Mm) (r : Rs) (h : wX [(k_IOE, (-903)), (k_IAE, (-901)), (k_ISE, (-902))] (f_child x0 x1 x2 M) = some r) : T_L_child ad r (sp_III f_child) [some (.ref (ad 0)), some (.int x0), some (.int x1), some (.int x2), none] [] M := by
  unfold wX at h
  split at h
  · next v M1 hF =>
    cases h
    simp only [T_L_child, tt_xc, tt_c, tt_lc, tt_il, tt_ll, tt_al, tt_is, tt_lsv, tt_as, tt_inc, tt_add, tt_sub, tt_mul, tt_and, tt_ladd, tt_lmul, tt_i2l, tt_lcmp, tt_dupr, tt_dup2, tt_eq0, tt_lt0, tt_le0, tt_ge0, tt_gt0, tt_eq2, tt_lt2, tt_ge2, tt_gt2, tt_le2, tt_gr, tt_gi, tt_pi, tt_gl, tt_pl, tt_ia, tt_st, tt_ir, tt_zr, tt_lr, tt_vr, tt_cv, tt_cs, tt_max, tt_min, tt_rem, tt_xor, tt_len, tt_cp, tt_thr, tt_xv, tt_xs, k_sv, k_cl, k_kz, List.getElem?_cons_zero, List.getElem?_cons_succ, List.drop_succ_cons, List.drop_zero, List.take_succ_cons, List.take_zero, List.reverse_cons, List.reverse_nil, List.nil_append, List.cons_append, List.length_cons, List.length_nil, Option.toList_some, Option.toList_none, Nat.reduceAdd, Nat.reduceLeDiff, true_and, and_true, sp_I, sp_II, sp_III, sp_JI, sp_JJ, sp_R2, sp_R5I, sp_V, hF]
  · next E M1 hF =>
    have hE : sp_III f_child [.int x0, .int x1, .int x2] M = some (.inr (E, M1)) := hF
    have hE := fe_child _ _ _ hE
    simp only [T_L_child, tt_xc, tt_c, tt_lc, tt_il, tt_ll, tt_al, tt_is, tt_lsv, tt_as, tt_inc, tt_add, tt_sub, tt_mul, tt_and, tt_ladd, tt_lmul, tt_i2l, tt_lcmp, tt_dupr, tt_dup2, tt_eq0, tt_lt0, tt_le0, tt_ge0, tt_gt0, tt_eq2, tt_lt2, tt_ge2, tt_gt2, tt_le2, tt_gr, tt_gi, tt_pi, tt_gl, tt_pl, tt_ia, tt_st, tt_ir, tt_zr, tt_lr, tt_vr, tt_cv, tt_cs, tt_max, tt_min, tt_rem, tt_xor, tt_len, tt_cp, tt_thr, tt_xv, tt_xs, k_sv, k_cl, k_kz, List.getElem?_cons_zero, List.getElem?_cons_succ, List.drop_succ_cons, List.drop_zero, List.take_succ_cons, List.take_zero, List.reverse_cons, List.reverse_nil, List.nil_append, List.cons_append, List.length_cons, List.length_nil, Option.toList_some, Option.toList_none, Nat.reduceAdd, Nat.reduceLeDiff, true_and, and_true, sp_I, sp_II, sp_III, sp_JI, sp_JJ, sp_R2, sp_R5I, sp_V, hF]
    intro q
    dsimp only at hE
    rcases hE with rfl | rfl | rfl
    · rw [wE, if_pos rfl] at h
      cases h
      rw [tt_th, if_pos rfl]
      simp only [tt_c, tt_lc, tt_il, tt_ll, tt_al, tt_is, tt_lsv, tt_as, tt_inc, tt_add, tt_sub, tt_mul, tt_and, tt_ladd, tt_lmul, tt_i2l, tt_lcmp, tt_dupr, tt_dup2, tt_eq0, tt_lt0, tt_le0, tt_ge0, tt_gt0, tt_eq2, tt_lt2, tt_ge2, tt_gt2, tt_le2, tt_gr, tt_gi, tt_pi, tt_gl, tt_pl, tt_ia, tt_st, tt_ir, tt_zr, tt_lr, tt_vr, tt_cv, tt_cs, tt_max, tt_min, tt_rem, tt_xor, tt_len, tt_cp, tt_thr, tt_xv, tt_xs, k_sv, k_cl, k_kz, List.getElem?_cons_zero, List.getElem?_cons_succ, List.drop_succ_cons, List.drop_zero, List.take_succ_cons, List.take_zero, List.reverse_cons, List.reverse_nil, List.nil_append, List.cons_append, List.length_cons, List.length_nil, Option.toList_some, Option.toList_none, Nat.reduceAdd, Nat.reduceLeDiff, true_and, and_true, sp_I, sp_II, sp_III, sp_JI, sp_JJ, sp_R2, sp_R5I, sp_V]
    · rw [wE, if_neg (show ¬ k_IAE = k_IOE by decide), wE, if_pos rfl] at h
      cases h
      rw [tt_th, if_neg (show ¬ k_IAE = k_IOE by decide), tt_th, if_pos rfl]
      simp only [tt_c, tt_lc, tt_il, tt_ll, tt_al, tt_is, tt_lsv, tt_as, tt_inc, tt_add, tt_sub, tt_mul, tt_and, tt_ladd, tt_lmul, tt_i2l, tt_lcmp, tt_dupr, tt_dup2, tt_eq0, tt_lt0, tt_le0, tt_ge0, tt_gt0, tt_eq2, tt_lt2, tt_ge2, tt_gt2, tt_le2, tt_gr, tt_gi, tt_pi, tt_gl, tt_pl, tt_ia, tt_st, tt_ir, tt_zr, tt_lr, tt_vr, tt_cv, tt_cs, tt_max, tt_min, tt_rem, tt_xor, tt_len, tt_cp, tt_thr, tt_xv, tt_xs, k_sv, k_cl, k_kz, List.getElem?_cons_zero, List.getElem?_cons_succ, List.drop_succ_cons, List.drop_zero, List.take_succ_cons, List.take_zero, List.reverse_cons, List.reverse_nil, List.nil_append, List.cons_append, List.length_cons, List.length_nil, Option.toList_some, Option.toList_none, Nat.reduceAdd, Nat.reduceLeDiff, true_and, and_true, sp_I, sp_II, sp_III, sp_JI, sp_JJ, sp_R2, sp_R5I, sp_V]
    · rw [wE, if_neg (show ¬ k_ISE = k_IOE by decide), wE, if_neg (show ¬ k_ISE = k_IAE by decide), wE, if_pos rfl] at h
      cases h
      rw [tt_th, if_neg (show ¬ k_ISE = k_IOE by decide), tt_th, if_neg (show ¬ k_ISE = k_IAE by decide), tt_th, if_pos rfl]
      simp only [tt_c, tt_lc, tt_il, tt_ll, tt_al, tt_is, tt_lsv, tt_as, tt_inc, tt_add, tt_sub, tt_mul, tt_and, tt_ladd, tt_lmul, tt_i2l, tt_lcmp, tt_dupr, tt_dup2, tt_eq0, tt_lt0, tt_le0, tt_ge0, tt_gt0, tt_eq2, tt_lt2, tt_ge2, tt_gt2, tt_le2, tt_gr, tt_gi, tt_pi, tt_gl, tt_pl, tt_ia, tt_st, tt_ir, tt_zr, tt_lr, tt_vr, tt_cv, tt_cs, tt_max, tt_min, tt_rem, tt_xor, tt_len, tt_cp, tt_thr, tt_xv, tt_xs, k_sv, k_cl, k_kz, List.getElem?_cons_zero, List.getElem?_cons_succ, List.drop_succ_cons, List.drop_zero, List.take_succ_cons, List.take_zero, List.reverse_cons, List.reverse_nil, List.nil_append, List.cons_append, List.length_cons, List.length_nil, Option.toList_some, Option.toList_none, Nat.reduceAdd, Nat.reduceLeDiff, true_and, and_true, sp_I, sp_II, sp_III, sp_JI, sp_JJ, sp_R2, sp_R5I, sp_V]
  · cases h
theorem pn_child (ad : Nat → Nat) (x0 : Int32) (x1 : Int32) (x2 : Int32) (M : Mm) (r : Rs) (h : wN (f_child x0 x1 x2 M) = some r) : TN_L_child ad r (sp_III f_child) [some (.ref (ad 0)), some (.int x0), some (.int x1), some (.int x2), none] [] M := by
  unfold wN at h
  split at h
  · next v M1 hF =>
    cases h
    simp only [TN_L_child, tt_c, tt_lc, tt_il, tt_ll, tt_al, tt_is, tt_lsv, tt_as, tt_inc, tt_add, tt_sub, tt_mul, tt_and, tt_ladd, tt_lmul, tt_i2l, tt_lcmp, tt_dupr, tt_dup2, tt_eq0, tt_lt0, tt_le0, tt_ge0, tt_gt0, tt_eq2, tt_lt2, tt_ge2, tt_gt2, tt_le2, tt_gr, tt_gi, tt_pi, tt_gl, tt_pl, tt_ia, tt_st, tt_ir, tt_zr, tt_lr, tt_vr, tt_cv, tt_cs, tt_max, tt_min, tt_rem, tt_xor, tt_len, tt_cp, tt_thr, tt_xv, tt_xs, k_sv, k_cl, k_kz, List.getElem?_cons_zero, List.getElem?_cons_succ, List.drop_succ_cons, List.drop_zero, List.take_succ_cons, List.take_zero, List.reverse_cons, List.reverse_nil, List.nil_append, List.cons_append, List.length_cons, List.length_nil, Option.toList_some, Option.toList_none, Nat.reduceAdd, Nat.reduceLeDiff, true_and, and_true, sp_I, sp_II, sp_III, sp_JI, sp_JJ, sp_R2, sp_R5I, sp_V, hF]
  · cases h
def sw_child (ad : Nat → Nat) : Sp := fun As M => match As with
  | [.ref a0, .int x0, .int x1, .int x2] => if a0 = ad 0 then wX [(k_IOE, (-903)), (k_IAE, (-901)), (k_ISE, (-902))] (f_child x0 x1 x2 M) else none
  | _ => none
def sn_child (ad : Nat → Nat) : Sp := fun As M => match As with
  | [.ref a0, .int x0, .int x1, .int x2] => if a0 = ad 0 then wN (f_child x0 x1 x2 M) else none
  | _ => none
theorem wr_child {l : Launch} {ad : Nat → Nat} {D : va_G} {cI cL : ClassId} (hI : k_I ad) (hf : l.stackTraces = false) : k_Wr l ad D cI cL yL_child cL_child 5 hh_child 9 155 (sw_child ad) :=
  k_wr (tree := fun r => T_L_child ad r (sp_III f_child)) hI (by decide +kernel) (fun X res hl hD C E T => S_L_child C E T (k_cvOf hl hD (cc_X3_child hI hf).1) (k_ctOf hl hD (cc_X3_child hI hf).2)) (fun As M r hF => by
    unfold sw_child at hF
    split at hF
    · split at hF
      · next hc =>
        obtain rfl := hc
        exact ⟨Nat.le_of_ble_eq_true rfl, _, k_inL rfl, pw_child ad _ _ _ M _ hF⟩
      · cases hF
    · cases hF)
theorem wn_child {l : Launch} {ad : Nat → Nat} {D : va_G} {cI cL : ClassId} (hI : k_I ad) (hf : l.stackTraces = false) : k_WrN l ad D cI cL yL_child cL_child 5 hh_child 9 155 (sn_child ad) :=
  k_wrN (tree := fun r => TN_L_child ad r (sp_III f_child)) hI (by decide +kernel) (fun X res hl hD C E => SN_L_child C E (k_cvOf hl hD (cc_X3_child hI hf).1)) (fun As M r hF => by
    unfold sn_child at hF
    split at hF
    · split at hF
      · next hc =>
        obtain rfl := hc
        exact ⟨Nat.le_of_ble_eq_true rfl, _, k_inL rfl, pn_child ad _ _ _ M _ hF⟩
      · cases hF
    · cases hF)
abbrev hh_subtree : List (Nat × Nat × Nat × Nat) := [(0, 6, 7, 15), (0, 6, 12, 19)]
theorem fe_subtree (As : List Value) (M : Mm) (e : String × Mm) (h : sp_II f_subtree As M = some (.inr e)) : e.1 = k_IOE ∨ e.1 = k_ISE := by
  unfold sp_II at h
  split at h
  · simp only [f_subtree, q_ms] at h
    (repeat' split at h) <;> first | (cases h; done) | (cases h; simp)
  · cases h
def T_L_subtree (ad : Nat → Nat) (res : Rs) (F : Sp) : Tr := (tt_al 0 (tt_il 1 (tt_il 2 (tt_xc ad 0 2 F (tt_ir res) (tt_th [(k_IOE, (tt_as 3 (tt_c (-903) (tt_ir res)))), (k_ISE, (tt_as 3 (tt_c (-902) (tt_ir res))))])))))
def TN_L_subtree (ad : Nat → Nat) (res : Rs) (F : Sp) : Tr := (tt_al 0 (tt_il 1 (tt_il 2 (tt_cv ad 0 2 F (tt_ir res)))))
theorem S_L_subtree {ad : Nat → Nat} {X : Cx} {res : Rs} (C : k_C ad X cL_subtree RL 4 8 133) (E : k_E ad (k_bump X) (some .int) res) (T : k_TW X hh_subtree) (h : kv_X3_subtree ad X (sp_II f_subtree)) (hx : kt_X3_subtree ad X (sp_II f_subtree)) : Sd ad X 0 (T_L_subtree ad res (sp_II f_subtree)) := by
  have Cb := k_Cb C T
  unfold T_L_subtree
  exact (ss_al0 C dL_subtree_0 rfl (ss_il0 C dL_subtree_1 rfl (ss_il0 C dL_subtree_2 rfl (ss_xc (hh := hh_subtree) k_rc0 C T dL_subtree_3 kc_RL_56 rfl h hx rfl (fun As M e h => by
    have hE := fe_subtree As M e h
    rcases hE with hE | hE
    · rw [hE]
      exact ⟨[], ⟨0, 6, 7, 15⟩, [⟨0, 6, 12, 19⟩], rfl, (fun z hz => absurd hz List.not_mem_nil), by decide, by decide, (k_gm 393 (by decide +kernel) (by decide +kernel)), by decide, by rw [tt_th, if_pos rfl]; exact (ss_as0 Cb dL_subtree_7 rfl (by decide) (ss_sp Cb dL_subtree_8 (by decide) (ss_ir Cb E dL_subtree_11)))⟩
    · rw [hE]
      exact ⟨[⟨0, 6, 7, 15⟩], ⟨0, 6, 12, 19⟩, [], rfl, (fun z hz => by
        simp only [List.mem_cons, List.not_mem_nil, or_false] at hz
        subst hz
        · exact Or.inr ⟨by decide, k_IOE, (k_gm 393 (by decide +kernel) (by decide +kernel)), by decide⟩), by decide, by decide, (k_gm 395 (by decide +kernel) (by decide +kernel)), by decide, by rw [tt_th, if_neg (by decide), tt_th, if_pos rfl]; exact (ss_as0 Cb dL_subtree_12 rfl (by decide) (ss_sp Cb dL_subtree_13 (by decide) (ss_ir Cb E dL_subtree_16)))⟩
    ) (ss_ir Cb E dL_subtree_6)))))
theorem SN_L_subtree {ad : Nat → Nat} {X : Cx} {res : Rs} (C : k_C ad X cL_subtree RL 4 8 133) (E : k_E ad X (some .int) res) (h : kv_X3_subtree ad X (sp_II f_subtree)) : Sd ad X 0 (TN_L_subtree ad res (sp_II f_subtree)) := by
  unfold TN_L_subtree
  exact (ss_al0 C dL_subtree_0 rfl (ss_il0 C dL_subtree_1 rfl (ss_il0 C dL_subtree_2 rfl (ss_cv k_rc0 C dL_subtree_3 kc_RL_56 rfl h rfl (ss_ir C E dL_subtree_6)))))
theorem pw_subtree (ad : Nat → Nat) (x0 : Int32) (x1 : Int32) (M : Mm) (r : Rs) (h : wX [(k_IOE, (-903)), (k_ISE, (-902))] (f_subtree x0 x1 M) = some r) : T_L_subtree ad r (sp_II f_subtree) [some (.ref (ad 0)), some (.int x0), some (.int x1), none] [] M := by
  unfold wX at h
  split at h
  · next v M1 hF =>
    cases h
    simp only [T_L_subtree, tt_xc, tt_c, tt_lc, tt_il, tt_ll, tt_al, tt_is, tt_lsv, tt_as, tt_inc, tt_add, tt_sub, tt_mul, tt_and, tt_ladd, tt_lmul, tt_i2l, tt_lcmp, tt_dupr, tt_dup2, tt_eq0, tt_lt0, tt_le0, tt_ge0, tt_gt0, tt_eq2, tt_lt2, tt_ge2, tt_gt2, tt_le2, tt_gr, tt_gi, tt_pi, tt_gl, tt_pl, tt_ia, tt_st, tt_ir, tt_zr, tt_lr, tt_vr, tt_cv, tt_cs, tt_max, tt_min, tt_rem, tt_xor, tt_len, tt_cp, tt_thr, tt_xv, tt_xs, k_sv, k_cl, k_kz, List.getElem?_cons_zero, List.getElem?_cons_succ, List.drop_succ_cons, List.drop_zero, List.take_succ_cons, List.take_zero, List.reverse_cons, List.reverse_nil, List.nil_append, List.cons_append, List.length_cons, List.length_nil, Option.toList_some, Option.toList_none, Nat.reduceAdd, Nat.reduceLeDiff, true_and, and_true, sp_I, sp_II, sp_III, sp_JI, sp_JJ, sp_R2, sp_R5I, sp_V, hF]
  · next E M1 hF =>
    have hE : sp_II f_subtree [.int x0, .int x1] M = some (.inr (E, M1)) := hF
    have hE := fe_subtree _ _ _ hE
    simp only [T_L_subtree, tt_xc, tt_c, tt_lc, tt_il, tt_ll, tt_al, tt_is, tt_lsv, tt_as, tt_inc, tt_add, tt_sub, tt_mul, tt_and, tt_ladd, tt_lmul, tt_i2l, tt_lcmp, tt_dupr, tt_dup2, tt_eq0, tt_lt0, tt_le0, tt_ge0, tt_gt0, tt_eq2, tt_lt2, tt_ge2, tt_gt2, tt_le2, tt_gr, tt_gi, tt_pi, tt_gl, tt_pl, tt_ia, tt_st, tt_ir, tt_zr, tt_lr, tt_vr, tt_cv, tt_cs, tt_max, tt_min, tt_rem, tt_xor, tt_len, tt_cp, tt_thr, tt_xv, tt_xs, k_sv, k_cl, k_kz, List.getElem?_cons_zero, List.getElem?_cons_succ, List.drop_succ_cons, List.drop_zero, List.take_succ_cons, List.take_zero, List.reverse_cons, List.reverse_nil, List.nil_append, List.cons_append, List.length_cons, List.length_nil, Option.toList_some, Option.toList_none, Nat.reduceAdd, Nat.reduceLeDiff, true_and, and_true, sp_I, sp_II, sp_III, sp_JI, sp_JJ, sp_R2, sp_R5I, sp_V, hF]
    intro q
    dsimp only at hE
    rcases hE with rfl | rfl
    · rw [wE, if_pos rfl] at h
      cases h
      rw [tt_th, if_pos rfl]
      simp only [tt_c, tt_lc, tt_il, tt_ll, tt_al, tt_is, tt_lsv, tt_as, tt_inc, tt_add, tt_sub, tt_mul, tt_and, tt_ladd, tt_lmul, tt_i2l, tt_lcmp, tt_dupr, tt_dup2, tt_eq0, tt_lt0, tt_le0, tt_ge0, tt_gt0, tt_eq2, tt_lt2, tt_ge2, tt_gt2, tt_le2, tt_gr, tt_gi, tt_pi, tt_gl, tt_pl, tt_ia, tt_st, tt_ir, tt_zr, tt_lr, tt_vr, tt_cv, tt_cs, tt_max, tt_min, tt_rem, tt_xor, tt_len, tt_cp, tt_thr, tt_xv, tt_xs, k_sv, k_cl, k_kz, List.getElem?_cons_zero, List.getElem?_cons_succ, List.drop_succ_cons, List.drop_zero, List.take_succ_cons, List.take_zero, List.reverse_cons, List.reverse_nil, List.nil_append, List.cons_append, List.length_cons, List.length_nil, Option.toList_some, Option.toList_none, Nat.reduceAdd, Nat.reduceLeDiff, true_and, and_true, sp_I, sp_II, sp_III, sp_JI, sp_JJ, sp_R2, sp_R5I, sp_V]
    · rw [wE, if_neg (show ¬ k_ISE = k_IOE by decide), wE, if_pos rfl] at h
      cases h
      rw [tt_th, if_neg (show ¬ k_ISE = k_IOE by decide), tt_th, if_pos rfl]
      simp only [tt_c, tt_lc, tt_il, tt_ll, tt_al, tt_is, tt_lsv, tt_as, tt_inc, tt_add, tt_sub, tt_mul, tt_and, tt_ladd, tt_lmul, tt_i2l, tt_lcmp, tt_dupr, tt_dup2, tt_eq0, tt_lt0, tt_le0, tt_ge0, tt_gt0, tt_eq2, tt_lt2, tt_ge2, tt_gt2, tt_le2, tt_gr, tt_gi, tt_pi, tt_gl, tt_pl, tt_ia, tt_st, tt_ir, tt_zr, tt_lr, tt_vr, tt_cv, tt_cs, tt_max, tt_min, tt_rem, tt_xor, tt_len, tt_cp, tt_thr, tt_xv, tt_xs, k_sv, k_cl, k_kz, List.getElem?_cons_zero, List.getElem?_cons_succ, List.drop_succ_cons, List.drop_zero, List.take_succ_cons, List.take_zero, List.reverse_cons, List.reverse_nil, List.nil_append, List.cons_append, List.length_cons, List.length_nil, Option.toList_some, Option.toList_none, Nat.reduceAdd, Nat.reduceLeDiff, true_and, and_true, sp_I, sp_II, sp_III, sp_JI, sp_JJ, sp_R2, sp_R5I, sp_V]
  · cases h
theorem pn_subtree (ad : Nat → Nat) (x0 : Int32) (x1 : Int32) (M : Mm) (r : Rs) (h : wN (f_subtree x0 x1 M) = some r) : TN_L_subtree ad r (sp_II f_subtree) [some (.ref (ad 0)), some (.int x0), some (.int x1), none] [] M := by
  unfold wN at h
  split at h
  · next v M1 hF =>
    cases h
    simp only [TN_L_subtree, tt_c, tt_lc, tt_il, tt_ll, tt_al, tt_is, tt_lsv, tt_as, tt_inc, tt_add, tt_sub, tt_mul, tt_and, tt_ladd, tt_lmul, tt_i2l, tt_lcmp, tt_dupr, tt_dup2, tt_eq0, tt_lt0, tt_le0, tt_ge0, tt_gt0, tt_eq2, tt_lt2, tt_ge2, tt_gt2, tt_le2, tt_gr, tt_gi, tt_pi, tt_gl, tt_pl, tt_ia, tt_st, tt_ir, tt_zr, tt_lr, tt_vr, tt_cv, tt_cs, tt_max, tt_min, tt_rem, tt_xor, tt_len, tt_cp, tt_thr, tt_xv, tt_xs, k_sv, k_cl, k_kz, List.getElem?_cons_zero, List.getElem?_cons_succ, List.drop_succ_cons, List.drop_zero, List.take_succ_cons, List.take_zero, List.reverse_cons, List.reverse_nil, List.nil_append, List.cons_append, List.length_cons, List.length_nil, Option.toList_some, Option.toList_none, Nat.reduceAdd, Nat.reduceLeDiff, true_and, and_true, sp_I, sp_II, sp_III, sp_JI, sp_JJ, sp_R2, sp_R5I, sp_V, hF]
  · cases h
def sw_subtree (ad : Nat → Nat) : Sp := fun As M => match As with
  | [.ref a0, .int x0, .int x1] => if a0 = ad 0 then wX [(k_IOE, (-903)), (k_ISE, (-902))] (f_subtree x0 x1 M) else none
  | _ => none
def sn_subtree (ad : Nat → Nat) : Sp := fun As M => match As with
  | [.ref a0, .int x0, .int x1] => if a0 = ad 0 then wN (f_subtree x0 x1 M) else none
  | _ => none
theorem wr_subtree {l : Launch} {ad : Nat → Nat} {D : va_G} {cI cL : ClassId} (hI : k_I ad) (hf : l.stackTraces = false) : k_Wr l ad D cI cL yL_subtree cL_subtree 4 hh_subtree 8 133 (sw_subtree ad) :=
  k_wr (tree := fun r => T_L_subtree ad r (sp_II f_subtree)) hI (by decide +kernel) (fun X res hl hD C E T => S_L_subtree C E T (k_cvOf hl hD (cc_X3_subtree hI hf).1) (k_ctOf hl hD (cc_X3_subtree hI hf).2)) (fun As M r hF => by
    unfold sw_subtree at hF
    split at hF
    · split at hF
      · next hc =>
        obtain rfl := hc
        exact ⟨Nat.le_of_ble_eq_true rfl, _, k_inL rfl, pw_subtree ad _ _ M _ hF⟩
      · cases hF
    · cases hF)
theorem wn_subtree {l : Launch} {ad : Nat → Nat} {D : va_G} {cI cL : ClassId} (hI : k_I ad) (hf : l.stackTraces = false) : k_WrN l ad D cI cL yL_subtree cL_subtree 4 hh_subtree 8 133 (sn_subtree ad) :=
  k_wrN (tree := fun r => TN_L_subtree ad r (sp_II f_subtree)) hI (by decide +kernel) (fun X res hl hD C E => SN_L_subtree C E (k_cvOf hl hD (cc_X3_subtree hI hf).1)) (fun As M r hF => by
    unfold sn_subtree at hF
    split at hF
    · split at hF
      · next hc =>
        obtain rfl := hc
        exact ⟨Nat.le_of_ble_eq_true rfl, _, k_inL rfl, pn_subtree ad _ _ M _ hF⟩
      · cases hF
    · cases hF)
abbrev hh_hasRoom : List (Nat × Nat × Nat × Nat) := [(0, 14, 15, 15), (0, 14, 20, 19)]
theorem fe_hasRoom (As : List Value) (M : Mm) (e : String × Mm) (h : sp_II f_hasRoom As M = some (.inr e)) : e.1 = k_IOE ∨ e.1 = k_ISE := by
  unfold sp_II at h
  split at h
  · simp only [f_hasRoom, q_ms] at h
    (repeat' split at h) <;> first | (cases h; done) | (cases h; simp)
  · cases h
def T_L_hasRoom (ad : Nat → Nat) (res : Rs) (F : Sp) : Tr := (tt_al 0 (tt_il 1 (tt_il 2 (tt_xc ad 0 2 F (tt_eq0 (tt_c 0 (tt_ir res)) (tt_c 1 (tt_ir res))) (tt_th [(k_IOE, (tt_as 3 (tt_c (-903) (tt_ir res)))), (k_ISE, (tt_as 3 (tt_c (-902) (tt_ir res))))])))))
def TN_L_hasRoom (ad : Nat → Nat) (res : Rs) (F : Sp) : Tr := (tt_al 0 (tt_il 1 (tt_il 2 (tt_cv ad 0 2 F (tt_eq0 (tt_c 0 (tt_ir res)) (tt_c 1 (tt_ir res)))))))
theorem S_L_hasRoom {ad : Nat → Nat} {X : Cx} {res : Rs} (C : k_C ad X cL_hasRoom RL 4 9 154) (E : k_E ad (k_bump X) (some .int) res) (T : k_TW X hh_hasRoom) (h : kv_X3_hasRoom ad X (sp_II f_hasRoom)) (hx : kt_X3_hasRoom ad X (sp_II f_hasRoom)) : Sd ad X 0 (T_L_hasRoom ad res (sp_II f_hasRoom)) := by
  have Cb := k_Cb C T
  unfold T_L_hasRoom
  exact (ss_al0 C dL_hasRoom_0 rfl (ss_il0 C dL_hasRoom_1 rfl (ss_il0 C dL_hasRoom_2 rfl (ss_xc (hh := hh_hasRoom) k_rc0 C T dL_hasRoom_3 kc_RL_59 rfl h hx rfl (fun As M e h => by
    have hE := fe_hasRoom As M e h
    rcases hE with hE | hE
    · rw [hE]
      exact ⟨[], ⟨0, 14, 15, 15⟩, [⟨0, 14, 20, 19⟩], rfl, (fun z hz => absurd hz List.not_mem_nil), by decide, by decide, (k_gm 393 (by decide +kernel) (by decide +kernel)), by decide, by rw [tt_th, if_pos rfl]; exact (ss_as0 Cb dL_hasRoom_15 rfl (by decide) (ss_sp Cb dL_hasRoom_16 (by decide) (ss_ir Cb E dL_hasRoom_19)))⟩
    · rw [hE]
      exact ⟨[⟨0, 14, 15, 15⟩], ⟨0, 14, 20, 19⟩, [], rfl, (fun z hz => by
        simp only [List.mem_cons, List.not_mem_nil, or_false] at hz
        subst hz
        · exact Or.inr ⟨by decide, k_IOE, (k_gm 393 (by decide +kernel) (by decide +kernel)), by decide⟩), by decide, by decide, (k_gm 395 (by decide +kernel) (by decide +kernel)), by decide, by rw [tt_th, if_neg (by decide), tt_th, if_pos rfl]; exact (ss_as0 Cb dL_hasRoom_20 rfl (by decide) (ss_sp Cb dL_hasRoom_21 (by decide) (ss_ir Cb E dL_hasRoom_24)))⟩
    ) (ss_eq0 Cb dL_hasRoom_6 (by decide) (ss_c Cb dL_hasRoom_13 (by decide) (ss_ir Cb E dL_hasRoom_14)) (ss_c Cb dL_hasRoom_9 (by decide) (ss_go Cb dL_hasRoom_10 (by decide) (ss_ir Cb E dL_hasRoom_14))))))))
theorem SN_L_hasRoom {ad : Nat → Nat} {X : Cx} {res : Rs} (C : k_C ad X cL_hasRoom RL 4 9 154) (E : k_E ad X (some .int) res) (h : kv_X3_hasRoom ad X (sp_II f_hasRoom)) : Sd ad X 0 (TN_L_hasRoom ad res (sp_II f_hasRoom)) := by
  unfold TN_L_hasRoom
  exact (ss_al0 C dL_hasRoom_0 rfl (ss_il0 C dL_hasRoom_1 rfl (ss_il0 C dL_hasRoom_2 rfl (ss_cv k_rc0 C dL_hasRoom_3 kc_RL_59 rfl h rfl (ss_eq0 C dL_hasRoom_6 (by decide) (ss_c C dL_hasRoom_13 (by decide) (ss_ir C E dL_hasRoom_14)) (ss_c C dL_hasRoom_9 (by decide) (ss_go C dL_hasRoom_10 (by decide) (ss_ir C E dL_hasRoom_14))))))))
theorem pw_hasRoom (ad : Nat → Nat) (x0 : Int32) (x1 : Int32) (M : Mm) (r : Rs) (h : wX [(k_IOE, (-903)), (k_ISE, (-902))] (f_hasRoom x0 x1 M) = some r) : T_L_hasRoom ad r (sp_II f_hasRoom) [some (.ref (ad 0)), some (.int x0), some (.int x1), none] [] M := by
  unfold wX at h
  split at h
  · next v M1 hF =>
    cases h
    simp only [T_L_hasRoom, tt_xc, tt_c, tt_lc, tt_il, tt_ll, tt_al, tt_is, tt_lsv, tt_as, tt_inc, tt_add, tt_sub, tt_mul, tt_and, tt_ladd, tt_lmul, tt_i2l, tt_lcmp, tt_dupr, tt_dup2, tt_eq0, tt_lt0, tt_le0, tt_ge0, tt_gt0, tt_eq2, tt_lt2, tt_ge2, tt_gt2, tt_le2, tt_gr, tt_gi, tt_pi, tt_gl, tt_pl, tt_ia, tt_st, tt_ir, tt_zr, tt_lr, tt_vr, tt_cv, tt_cs, tt_max, tt_min, tt_rem, tt_xor, tt_len, tt_cp, tt_thr, tt_xv, tt_xs, k_sv, k_cl, k_kz, List.getElem?_cons_zero, List.getElem?_cons_succ, List.drop_succ_cons, List.drop_zero, List.take_succ_cons, List.take_zero, List.reverse_cons, List.reverse_nil, List.nil_append, List.cons_append, List.length_cons, List.length_nil, Option.toList_some, Option.toList_none, Nat.reduceAdd, Nat.reduceLeDiff, true_and, and_true, sp_I, sp_II, sp_III, sp_JI, sp_JJ, sp_R2, sp_R5I, sp_V, hF]
    have hv : v = 0 ∨ v = 1 := by
      simp only [f_hasRoom] at hF
      (repeat' split at hF) <;> first | (cases hF; done) | (cases hF; exact bI_or _)
    rcases hv with rfl | rfl <;> simp
  · next E M1 hF =>
    have hE : sp_II f_hasRoom [.int x0, .int x1] M = some (.inr (E, M1)) := hF
    have hE := fe_hasRoom _ _ _ hE
    simp only [T_L_hasRoom, tt_xc, tt_c, tt_lc, tt_il, tt_ll, tt_al, tt_is, tt_lsv, tt_as, tt_inc, tt_add, tt_sub, tt_mul, tt_and, tt_ladd, tt_lmul, tt_i2l, tt_lcmp, tt_dupr, tt_dup2, tt_eq0, tt_lt0, tt_le0, tt_ge0, tt_gt0, tt_eq2, tt_lt2, tt_ge2, tt_gt2, tt_le2, tt_gr, tt_gi, tt_pi, tt_gl, tt_pl, tt_ia, tt_st, tt_ir, tt_zr, tt_lr, tt_vr, tt_cv, tt_cs, tt_max, tt_min, tt_rem, tt_xor, tt_len, tt_cp, tt_thr, tt_xv, tt_xs, k_sv, k_cl, k_kz, List.getElem?_cons_zero, List.getElem?_cons_succ, List.drop_succ_cons, List.drop_zero, List.take_succ_cons, List.take_zero, List.reverse_cons, List.reverse_nil, List.nil_append, List.cons_append, List.length_cons, List.length_nil, Option.toList_some, Option.toList_none, Nat.reduceAdd, Nat.reduceLeDiff, true_and, and_true, sp_I, sp_II, sp_III, sp_JI, sp_JJ, sp_R2, sp_R5I, sp_V, hF]
    intro q
    dsimp only at hE
    rcases hE with rfl | rfl
    · rw [wE, if_pos rfl] at h
      cases h
      rw [tt_th, if_pos rfl]
      simp only [tt_c, tt_lc, tt_il, tt_ll, tt_al, tt_is, tt_lsv, tt_as, tt_inc, tt_add, tt_sub, tt_mul, tt_and, tt_ladd, tt_lmul, tt_i2l, tt_lcmp, tt_dupr, tt_dup2, tt_eq0, tt_lt0, tt_le0, tt_ge0, tt_gt0, tt_eq2, tt_lt2, tt_ge2, tt_gt2, tt_le2, tt_gr, tt_gi, tt_pi, tt_gl, tt_pl, tt_ia, tt_st, tt_ir, tt_zr, tt_lr, tt_vr, tt_cv, tt_cs, tt_max, tt_min, tt_rem, tt_xor, tt_len, tt_cp, tt_thr, tt_xv, tt_xs, k_sv, k_cl, k_kz, List.getElem?_cons_zero, List.getElem?_cons_succ, List.drop_succ_cons, List.drop_zero, List.take_succ_cons, List.take_zero, List.reverse_cons, List.reverse_nil, List.nil_append, List.cons_append, List.length_cons, List.length_nil, Option.toList_some, Option.toList_none, Nat.reduceAdd, Nat.reduceLeDiff, true_and, and_true, sp_I, sp_II, sp_III, sp_JI, sp_JJ, sp_R2, sp_R5I, sp_V]
    · rw [wE, if_neg (show ¬ k_ISE = k_IOE by decide), wE, if_pos rfl] at h
      cases h
      rw [tt_th, if_neg (show ¬ k_ISE = k_IOE by decide), tt_th, if_pos rfl]
      simp only [tt_c, tt_lc, tt_il, tt_ll, tt_al, tt_is, tt_lsv, tt_as, tt_inc, tt_add, tt_sub, tt_mul, tt_and, tt_ladd, tt_lmul, tt_i2l, tt_lcmp, tt_dupr, tt_dup2, tt_eq0, tt_lt0, tt_le0, tt_ge0, tt_gt0, tt_eq2, tt_lt2, tt_ge2, tt_gt2, tt_le2, tt_gr, tt_gi, tt_pi, tt_gl, tt_pl, tt_ia, tt_st, tt_ir, tt_zr, tt_lr, tt_vr, tt_cv, tt_cs, tt_max, tt_min, tt_rem, tt_xor, tt_len, tt_cp, tt_thr, tt_xv, tt_xs, k_sv, k_cl, k_kz, List.getElem?_cons_zero, List.getElem?_cons_succ, List.drop_succ_cons, List.drop_zero, List.take_succ_cons, List.take_zero, List.reverse_cons, List.reverse_nil, List.nil_append, List.cons_append, List.length_cons, List.length_nil, Option.toList_some, Option.toList_none, Nat.reduceAdd, Nat.reduceLeDiff, true_and, and_true, sp_I, sp_II, sp_III, sp_JI, sp_JJ, sp_R2, sp_R5I, sp_V]
  · cases h
theorem pn_hasRoom (ad : Nat → Nat) (x0 : Int32) (x1 : Int32) (M : Mm) (r : Rs) (h : wN (f_hasRoom x0 x1 M) = some r) : TN_L_hasRoom ad r (sp_II f_hasRoom) [some (.ref (ad 0)), some (.int x0), some (.int x1), none] [] M := by
  unfold wN at h
  split at h
  · next v M1 hF =>
    cases h
    simp only [TN_L_hasRoom, tt_c, tt_lc, tt_il, tt_ll, tt_al, tt_is, tt_lsv, tt_as, tt_inc, tt_add, tt_sub, tt_mul, tt_and, tt_ladd, tt_lmul, tt_i2l, tt_lcmp, tt_dupr, tt_dup2, tt_eq0, tt_lt0, tt_le0, tt_ge0, tt_gt0, tt_eq2, tt_lt2, tt_ge2, tt_gt2, tt_le2, tt_gr, tt_gi, tt_pi, tt_gl, tt_pl, tt_ia, tt_st, tt_ir, tt_zr, tt_lr, tt_vr, tt_cv, tt_cs, tt_max, tt_min, tt_rem, tt_xor, tt_len, tt_cp, tt_thr, tt_xv, tt_xs, k_sv, k_cl, k_kz, List.getElem?_cons_zero, List.getElem?_cons_succ, List.drop_succ_cons, List.drop_zero, List.take_succ_cons, List.take_zero, List.reverse_cons, List.reverse_nil, List.nil_append, List.cons_append, List.length_cons, List.length_nil, Option.toList_some, Option.toList_none, Nat.reduceAdd, Nat.reduceLeDiff, true_and, and_true, sp_I, sp_II, sp_III, sp_JI, sp_JJ, sp_R2, sp_R5I, sp_V, hF]
    have hv : v = 0 ∨ v = 1 := by
      simp only [f_hasRoom] at hF
      (repeat' split at hF) <;> first | (cases hF; done) | (cases hF; exact bI_or _)
    rcases hv with rfl | rfl <;> simp
  · cases h
def sw_hasRoom (ad : Nat → Nat) : Sp := fun As M => match As with
  | [.ref a0, .int x0, .int x1] => if a0 = ad 0 then wX [(k_IOE, (-903)), (k_ISE, (-902))] (f_hasRoom x0 x1 M) else none
  | _ => none
def sn_hasRoom (ad : Nat → Nat) : Sp := fun As M => match As with
  | [.ref a0, .int x0, .int x1] => if a0 = ad 0 then wN (f_hasRoom x0 x1 M) else none
  | _ => none
theorem wr_hasRoom {l : Launch} {ad : Nat → Nat} {D : va_G} {cI cL : ClassId} (hI : k_I ad) (hf : l.stackTraces = false) : k_Wr l ad D cI cL yL_hasRoom cL_hasRoom 4 hh_hasRoom 9 154 (sw_hasRoom ad) :=
  k_wr (tree := fun r => T_L_hasRoom ad r (sp_II f_hasRoom)) hI (by decide +kernel) (fun X res hl hD C E T => S_L_hasRoom C E T (k_cvOf hl hD (cc_X3_hasRoom hI hf).1) (k_ctOf hl hD (cc_X3_hasRoom hI hf).2)) (fun As M r hF => by
    unfold sw_hasRoom at hF
    split at hF
    · split at hF
      · next hc =>
        obtain rfl := hc
        exact ⟨Nat.le_of_ble_eq_true rfl, _, k_inL rfl, pw_hasRoom ad _ _ M _ hF⟩
      · cases hF
    · cases hF)
theorem wn_hasRoom {l : Launch} {ad : Nat → Nat} {D : va_G} {cI cL : ClassId} (hI : k_I ad) (hf : l.stackTraces = false) : k_WrN l ad D cI cL yL_hasRoom cL_hasRoom 4 hh_hasRoom 9 154 (sn_hasRoom ad) :=
  k_wrN (tree := fun r => TN_L_hasRoom ad r (sp_II f_hasRoom)) hI (by decide +kernel) (fun X res hl hD C E => SN_L_hasRoom C E (k_cvOf hl hD (cc_X3_hasRoom hI hf).1)) (fun As M r hF => by
    unfold sn_hasRoom at hF
    split at hF
    · split at hF
      · next hc =>
        obtain rfl := hc
        exact ⟨Nat.le_of_ble_eq_true rfl, _, k_inL rfl, pn_hasRoom ad _ _ M _ hF⟩
      · cases hF
    · cases hF)
abbrev hh_ranksBefore : List (Nat × Nat × Nat × Nat) := [(0, 15, 16, 15), (0, 15, 22, 17), (0, 15, 28, 19)]
theorem fe_ranksBefore (As : List Value) (M : Mm) (e : String × Mm) (h : sp_III f_ranksBefore As M = some (.inr e)) : e.1 = k_IOE ∨ e.1 = k_IAE ∨ e.1 = k_ISE := by
  unfold sp_III at h
  split at h
  · simp only [f_ranksBefore, q_ms] at h
    (repeat' split at h) <;> first | (cases h; done) | (cases h; simp)
  · cases h
def T_L_ranksBefore (ad : Nat → Nat) (res : Rs) (F : Sp) : Tr := (tt_al 0 (tt_il 1 (tt_il 2 (tt_il 3 (tt_xc ad 0 3 F (tt_eq0 (tt_c 0 (tt_ir res)) (tt_c 1 (tt_ir res))) (tt_th [(k_IOE, (tt_as 4 (tt_c (-903) (tt_ir res)))), (k_IAE, (tt_as 4 (tt_c (-901) (tt_ir res)))), (k_ISE, (tt_as 4 (tt_c (-902) (tt_ir res))))]))))))
def TN_L_ranksBefore (ad : Nat → Nat) (res : Rs) (F : Sp) : Tr := (tt_al 0 (tt_il 1 (tt_il 2 (tt_il 3 (tt_cv ad 0 3 F (tt_eq0 (tt_c 0 (tt_ir res)) (tt_c 1 (tt_ir res))))))))
theorem S_L_ranksBefore {ad : Nat → Nat} {X : Cx} {res : Rs} (C : k_C ad X cL_ranksBefore RL 5 8 134) (E : k_E ad (k_bump X) (some .int) res) (T : k_TW X hh_ranksBefore) (h : kv_X3_ranksBefore ad X (sp_III f_ranksBefore)) (hx : kt_X3_ranksBefore ad X (sp_III f_ranksBefore)) : Sd ad X 0 (T_L_ranksBefore ad res (sp_III f_ranksBefore)) := by
  have Cb := k_Cb C T
  unfold T_L_ranksBefore
  exact (ss_al0 C dL_ranksBefore_0 rfl (ss_il0 C dL_ranksBefore_1 rfl (ss_il0 C dL_ranksBefore_2 rfl (ss_il0 C dL_ranksBefore_3 rfl (ss_xc (hh := hh_ranksBefore) k_rc0 C T dL_ranksBefore_4 kc_RL_63 rfl h hx rfl (fun As M e h => by
    have hE := fe_ranksBefore As M e h
    rcases hE with hE | hE | hE
    · rw [hE]
      exact ⟨[], ⟨0, 15, 16, 15⟩, [⟨0, 15, 22, 17⟩, ⟨0, 15, 28, 19⟩], rfl, (fun z hz => absurd hz List.not_mem_nil), by decide, by decide, (k_gm 393 (by decide +kernel) (by decide +kernel)), by decide, by rw [tt_th, if_pos rfl]; exact (ss_as Cb dL_ranksBefore_16 (by decide) (ss_sp Cb dL_ranksBefore_18 (by decide) (ss_ir Cb E dL_ranksBefore_21)))⟩
    · rw [hE]
      exact ⟨[⟨0, 15, 16, 15⟩], ⟨0, 15, 22, 17⟩, [⟨0, 15, 28, 19⟩], rfl, (fun z hz => by
        simp only [List.mem_cons, List.not_mem_nil, or_false] at hz
        subst hz
        · exact Or.inr ⟨by decide, k_IOE, (k_gm 393 (by decide +kernel) (by decide +kernel)), by decide⟩), by decide, by decide, (k_gm 394 (by decide +kernel) (by decide +kernel)), by decide, by rw [tt_th, if_neg (by decide), tt_th, if_pos rfl]; exact (ss_as Cb dL_ranksBefore_22 (by decide) (ss_sp Cb dL_ranksBefore_24 (by decide) (ss_ir Cb E dL_ranksBefore_27)))⟩
    · rw [hE]
      exact ⟨[⟨0, 15, 16, 15⟩, ⟨0, 15, 22, 17⟩], ⟨0, 15, 28, 19⟩, [], rfl, (fun z hz => by
        simp only [List.mem_cons, List.not_mem_nil, or_false] at hz
        rcases hz with rfl | rfl
        · exact Or.inr ⟨by decide, k_IOE, (k_gm 393 (by decide +kernel) (by decide +kernel)), by decide⟩
        · exact Or.inr ⟨by decide, k_IAE, (k_gm 394 (by decide +kernel) (by decide +kernel)), by decide⟩), by decide, by decide, (k_gm 395 (by decide +kernel) (by decide +kernel)), by decide, by rw [tt_th, if_neg (by decide), tt_th, if_neg (by decide), tt_th, if_pos rfl]; exact (ss_as Cb dL_ranksBefore_28 (by decide) (ss_sp Cb dL_ranksBefore_30 (by decide) (ss_ir Cb E dL_ranksBefore_33)))⟩
    ) (ss_eq0 Cb dL_ranksBefore_7 (by decide) (ss_c Cb dL_ranksBefore_14 (by decide) (ss_ir Cb E dL_ranksBefore_15)) (ss_c Cb dL_ranksBefore_10 (by decide) (ss_go Cb dL_ranksBefore_11 (by decide) (ss_ir Cb E dL_ranksBefore_15)))))))))
theorem SN_L_ranksBefore {ad : Nat → Nat} {X : Cx} {res : Rs} (C : k_C ad X cL_ranksBefore RL 5 8 134) (E : k_E ad X (some .int) res) (h : kv_X3_ranksBefore ad X (sp_III f_ranksBefore)) : Sd ad X 0 (TN_L_ranksBefore ad res (sp_III f_ranksBefore)) := by
  unfold TN_L_ranksBefore
  exact (ss_al0 C dL_ranksBefore_0 rfl (ss_il0 C dL_ranksBefore_1 rfl (ss_il0 C dL_ranksBefore_2 rfl (ss_il0 C dL_ranksBefore_3 rfl (ss_cv k_rc0 C dL_ranksBefore_4 kc_RL_63 rfl h rfl (ss_eq0 C dL_ranksBefore_7 (by decide) (ss_c C dL_ranksBefore_14 (by decide) (ss_ir C E dL_ranksBefore_15)) (ss_c C dL_ranksBefore_10 (by decide) (ss_go C dL_ranksBefore_11 (by decide) (ss_ir C E dL_ranksBefore_15)))))))))
theorem pw_ranksBefore (ad : Nat → Nat) (x0 : Int32) (x1 : Int32) (x2 : Int32) (M : Mm) (r : Rs) (h : wX [(k_IOE, (-903)), (k_IAE, (-901)), (k_ISE, (-902))] (f_ranksBefore x0 x1 x2 M) = some r) : T_L_ranksBefore ad r (sp_III f_ranksBefore) [some (.ref (ad 0)), some (.int x0), some (.int x1), some (.int x2), none] [] M := by
  unfold wX at h
  split at h
  · next v M1 hF =>
    cases h
    simp only [T_L_ranksBefore, tt_xc, tt_c, tt_lc, tt_il, tt_ll, tt_al, tt_is, tt_lsv, tt_as, tt_inc, tt_add, tt_sub, tt_mul, tt_and, tt_ladd, tt_lmul, tt_i2l, tt_lcmp, tt_dupr, tt_dup2, tt_eq0, tt_lt0, tt_le0, tt_ge0, tt_gt0, tt_eq2, tt_lt2, tt_ge2, tt_gt2, tt_le2, tt_gr, tt_gi, tt_pi, tt_gl, tt_pl, tt_ia, tt_st, tt_ir, tt_zr, tt_lr, tt_vr, tt_cv, tt_cs, tt_max, tt_min, tt_rem, tt_xor, tt_len, tt_cp, tt_thr, tt_xv, tt_xs, k_sv, k_cl, k_kz, List.getElem?_cons_zero, List.getElem?_cons_succ, List.drop_succ_cons, List.drop_zero, List.take_succ_cons, List.take_zero, List.reverse_cons, List.reverse_nil, List.nil_append, List.cons_append, List.length_cons, List.length_nil, Option.toList_some, Option.toList_none, Nat.reduceAdd, Nat.reduceLeDiff, true_and, and_true, sp_I, sp_II, sp_III, sp_JI, sp_JJ, sp_R2, sp_R5I, sp_V, hF]
    have hv : v = 0 ∨ v = 1 := by
      simp only [f_ranksBefore] at hF
      (repeat' split at hF) <;> first | (cases hF; done) | (cases hF; exact bI_or _)
    rcases hv with rfl | rfl <;> simp
  · next E M1 hF =>
    have hE : sp_III f_ranksBefore [.int x0, .int x1, .int x2] M = some (.inr (E, M1)) := hF
    have hE := fe_ranksBefore _ _ _ hE
    simp only [T_L_ranksBefore, tt_xc, tt_c, tt_lc, tt_il, tt_ll, tt_al, tt_is, tt_lsv, tt_as, tt_inc, tt_add, tt_sub, tt_mul, tt_and, tt_ladd, tt_lmul, tt_i2l, tt_lcmp, tt_dupr, tt_dup2, tt_eq0, tt_lt0, tt_le0, tt_ge0, tt_gt0, tt_eq2, tt_lt2, tt_ge2, tt_gt2, tt_le2, tt_gr, tt_gi, tt_pi, tt_gl, tt_pl, tt_ia, tt_st, tt_ir, tt_zr, tt_lr, tt_vr, tt_cv, tt_cs, tt_max, tt_min, tt_rem, tt_xor, tt_len, tt_cp, tt_thr, tt_xv, tt_xs, k_sv, k_cl, k_kz, List.getElem?_cons_zero, List.getElem?_cons_succ, List.drop_succ_cons, List.drop_zero, List.take_succ_cons, List.take_zero, List.reverse_cons, List.reverse_nil, List.nil_append, List.cons_append, List.length_cons, List.length_nil, Option.toList_some, Option.toList_none, Nat.reduceAdd, Nat.reduceLeDiff, true_and, and_true, sp_I, sp_II, sp_III, sp_JI, sp_JJ, sp_R2, sp_R5I, sp_V, hF]
    intro q
    dsimp only at hE
    rcases hE with rfl | rfl | rfl
    · rw [wE, if_pos rfl] at h
      cases h
      rw [tt_th, if_pos rfl]
      simp only [tt_c, tt_lc, tt_il, tt_ll, tt_al, tt_is, tt_lsv, tt_as, tt_inc, tt_add, tt_sub, tt_mul, tt_and, tt_ladd, tt_lmul, tt_i2l, tt_lcmp, tt_dupr, tt_dup2, tt_eq0, tt_lt0, tt_le0, tt_ge0, tt_gt0, tt_eq2, tt_lt2, tt_ge2, tt_gt2, tt_le2, tt_gr, tt_gi, tt_pi, tt_gl, tt_pl, tt_ia, tt_st, tt_ir, tt_zr, tt_lr, tt_vr, tt_cv, tt_cs, tt_max, tt_min, tt_rem, tt_xor, tt_len, tt_cp, tt_thr, tt_xv, tt_xs, k_sv, k_cl, k_kz, List.getElem?_cons_zero, List.getElem?_cons_succ, List.drop_succ_cons, List.drop_zero, List.take_succ_cons, List.take_zero, List.reverse_cons, List.reverse_nil, List.nil_append, List.cons_append, List.length_cons, List.length_nil, Option.toList_some, Option.toList_none, Nat.reduceAdd, Nat.reduceLeDiff, true_and, and_true, sp_I, sp_II, sp_III, sp_JI, sp_JJ, sp_R2, sp_R5I, sp_V]
    · rw [wE, if_neg (show ¬ k_IAE = k_IOE by decide), wE, if_pos rfl] at h
      cases h
      rw [tt_th, if_neg (show ¬ k_IAE = k_IOE by decide), tt_th, if_pos rfl]
      simp only [tt_c, tt_lc, tt_il, tt_ll, tt_al, tt_is, tt_lsv, tt_as, tt_inc, tt_add, tt_sub, tt_mul, tt_and, tt_ladd, tt_lmul, tt_i2l, tt_lcmp, tt_dupr, tt_dup2, tt_eq0, tt_lt0, tt_le0, tt_ge0, tt_gt0, tt_eq2, tt_lt2, tt_ge2, tt_gt2, tt_le2, tt_gr, tt_gi, tt_pi, tt_gl, tt_pl, tt_ia, tt_st, tt_ir, tt_zr, tt_lr, tt_vr, tt_cv, tt_cs, tt_max, tt_min, tt_rem, tt_xor, tt_len, tt_cp, tt_thr, tt_xv, tt_xs, k_sv, k_cl, k_kz, List.getElem?_cons_zero, List.getElem?_cons_succ, List.drop_succ_cons, List.drop_zero, List.take_succ_cons, List.take_zero, List.reverse_cons, List.reverse_nil, List.nil_append, List.cons_append, List.length_cons, List.length_nil, Option.toList_some, Option.toList_none, Nat.reduceAdd, Nat.reduceLeDiff, true_and, and_true, sp_I, sp_II, sp_III, sp_JI, sp_JJ, sp_R2, sp_R5I, sp_V]
    · rw [wE, if_neg (show ¬ k_ISE = k_IOE by decide), wE, if_neg (show ¬ k_ISE = k_IAE by decide), wE, if_pos rfl] at h
      cases h
      rw [tt_th, if_neg (show ¬ k_ISE = k_IOE by decide), tt_th, if_neg (show ¬ k_ISE = k_IAE by decide), tt_th, if_pos rfl]
      simp only [tt_c, tt_lc, tt_il, tt_ll, tt_al, tt_is, tt_lsv, tt_as, tt_inc, tt_add, tt_sub, tt_mul, tt_and, tt_ladd, tt_lmul, tt_i2l, tt_lcmp, tt_dupr, tt_dup2, tt_eq0, tt_lt0, tt_le0, tt_ge0, tt_gt0, tt_eq2, tt_lt2, tt_ge2, tt_gt2, tt_le2, tt_gr, tt_gi, tt_pi, tt_gl, tt_pl, tt_ia, tt_st, tt_ir, tt_zr, tt_lr, tt_vr, tt_cv, tt_cs, tt_max, tt_min, tt_rem, tt_xor, tt_len, tt_cp, tt_thr, tt_xv, tt_xs, k_sv, k_cl, k_kz, List.getElem?_cons_zero, List.getElem?_cons_succ, List.drop_succ_cons, List.drop_zero, List.take_succ_cons, List.take_zero, List.reverse_cons, List.reverse_nil, List.nil_append, List.cons_append, List.length_cons, List.length_nil, Option.toList_some, Option.toList_none, Nat.reduceAdd, Nat.reduceLeDiff, true_and, and_true, sp_I, sp_II, sp_III, sp_JI, sp_JJ, sp_R2, sp_R5I, sp_V]
  · cases h
theorem pn_ranksBefore (ad : Nat → Nat) (x0 : Int32) (x1 : Int32) (x2 : Int32) (M : Mm) (r : Rs) (h : wN (f_ranksBefore x0 x1 x2 M) = some r) : TN_L_ranksBefore ad r (sp_III f_ranksBefore) [some (.ref (ad 0)), some (.int x0), some (.int x1), some (.int x2), none] [] M := by
  unfold wN at h
  split at h
  · next v M1 hF =>
    cases h
    simp only [TN_L_ranksBefore, tt_c, tt_lc, tt_il, tt_ll, tt_al, tt_is, tt_lsv, tt_as, tt_inc, tt_add, tt_sub, tt_mul, tt_and, tt_ladd, tt_lmul, tt_i2l, tt_lcmp, tt_dupr, tt_dup2, tt_eq0, tt_lt0, tt_le0, tt_ge0, tt_gt0, tt_eq2, tt_lt2, tt_ge2, tt_gt2, tt_le2, tt_gr, tt_gi, tt_pi, tt_gl, tt_pl, tt_ia, tt_st, tt_ir, tt_zr, tt_lr, tt_vr, tt_cv, tt_cs, tt_max, tt_min, tt_rem, tt_xor, tt_len, tt_cp, tt_thr, tt_xv, tt_xs, k_sv, k_cl, k_kz, List.getElem?_cons_zero, List.getElem?_cons_succ, List.drop_succ_cons, List.drop_zero, List.take_succ_cons, List.take_zero, List.reverse_cons, List.reverse_nil, List.nil_append, List.cons_append, List.length_cons, List.length_nil, Option.toList_some, Option.toList_none, Nat.reduceAdd, Nat.reduceLeDiff, true_and, and_true, sp_I, sp_II, sp_III, sp_JI, sp_JJ, sp_R2, sp_R5I, sp_V, hF]
    have hv : v = 0 ∨ v = 1 := by
      simp only [f_ranksBefore] at hF
      (repeat' split at hF) <;> first | (cases hF; done) | (cases hF; exact bI_or _)
    rcases hv with rfl | rfl <;> simp
  · cases h
def sw_ranksBefore (ad : Nat → Nat) : Sp := fun As M => match As with
  | [.ref a0, .int x0, .int x1, .int x2] => if a0 = ad 0 then wX [(k_IOE, (-903)), (k_IAE, (-901)), (k_ISE, (-902))] (f_ranksBefore x0 x1 x2 M) else none
  | _ => none
def sn_ranksBefore (ad : Nat → Nat) : Sp := fun As M => match As with
  | [.ref a0, .int x0, .int x1, .int x2] => if a0 = ad 0 then wN (f_ranksBefore x0 x1 x2 M) else none
  | _ => none
theorem wr_ranksBefore {l : Launch} {ad : Nat → Nat} {D : va_G} {cI cL : ClassId} (hI : k_I ad) (hf : l.stackTraces = false) : k_Wr l ad D cI cL yL_ranksBefore cL_ranksBefore 5 hh_ranksBefore 8 134 (sw_ranksBefore ad) :=
  k_wr (tree := fun r => T_L_ranksBefore ad r (sp_III f_ranksBefore)) hI (by decide +kernel) (fun X res hl hD C E T => S_L_ranksBefore C E T (k_cvOf hl hD (cc_X3_ranksBefore hI hf).1) (k_ctOf hl hD (cc_X3_ranksBefore hI hf).2)) (fun As M r hF => by
    unfold sw_ranksBefore at hF
    split at hF
    · split at hF
      · next hc =>
        obtain rfl := hc
        exact ⟨Nat.le_of_ble_eq_true rfl, _, k_inL rfl, pw_ranksBefore ad _ _ _ M _ hF⟩
      · cases hF
    · cases hF)
theorem wn_ranksBefore {l : Launch} {ad : Nat → Nat} {D : va_G} {cI cL : ClassId} (hI : k_I ad) (hf : l.stackTraces = false) : k_WrN l ad D cI cL yL_ranksBefore cL_ranksBefore 5 hh_ranksBefore 8 134 (sn_ranksBefore ad) :=
  k_wrN (tree := fun r => TN_L_ranksBefore ad r (sp_III f_ranksBefore)) hI (by decide +kernel) (fun X res hl hD C E => SN_L_ranksBefore C E (k_cvOf hl hD (cc_X3_ranksBefore hI hf).1)) (fun As M r hF => by
    unfold sn_ranksBefore at hF
    split at hF
    · split at hF
      · next hc =>
        obtain rfl := hc
        exact ⟨Nat.le_of_ble_eq_true rfl, _, k_inL rfl, pn_ranksBefore ad _ _ _ M _ hF⟩
      · cases hF
    · cases hF)
abbrev hh_harm : List (Nat × Nat × Nat × Nat) := [(0, 5, 6, 15), (0, 5, 11, 19)]
theorem fe_harm (As : List Value) (M : Mm) (e : String × Mm) (h : sp_I f_harm As M = some (.inr e)) : e.1 = k_IOE ∨ e.1 = k_ISE := by
  unfold sp_I at h
  split at h
  · simp only [f_harm, q_ms] at h
    (repeat' split at h) <;> first | (cases h; done) | (cases h; simp)
  · cases h
def T_L_harm (ad : Nat → Nat) (res : Rs) (F : Sp) : Tr := (tt_al 0 (tt_il 1 (tt_xc ad 0 1 F (tt_ir res) (tt_th [(k_IOE, (tt_as 2 (tt_c (-903) (tt_ir res)))), (k_ISE, (tt_as 2 (tt_c (-902) (tt_ir res))))]))))
def TN_L_harm (ad : Nat → Nat) (res : Rs) (F : Sp) : Tr := (tt_al 0 (tt_il 1 (tt_cv ad 0 1 F (tt_ir res))))
theorem S_L_harm {ad : Nat → Nat} {X : Cx} {res : Rs} (C : k_C ad X cL_harm RL 3 8 135) (E : k_E ad (k_bump X) (some .int) res) (T : k_TW X hh_harm) (h : kv_X3_harm ad X (sp_I f_harm)) (hx : kt_X3_harm ad X (sp_I f_harm)) : Sd ad X 0 (T_L_harm ad res (sp_I f_harm)) := by
  have Cb := k_Cb C T
  unfold T_L_harm
  exact (ss_al0 C dL_harm_0 rfl (ss_il0 C dL_harm_1 rfl (ss_xc (hh := hh_harm) k_rc0 C T dL_harm_2 kc_RL_67 rfl h hx rfl (fun As M e h => by
    have hE := fe_harm As M e h
    rcases hE with hE | hE
    · rw [hE]
      exact ⟨[], ⟨0, 5, 6, 15⟩, [⟨0, 5, 11, 19⟩], rfl, (fun z hz => absurd hz List.not_mem_nil), by decide, by decide, (k_gm 393 (by decide +kernel) (by decide +kernel)), by decide, by rw [tt_th, if_pos rfl]; exact (ss_as0 Cb dL_harm_6 rfl (by decide) (ss_sp Cb dL_harm_7 (by decide) (ss_ir Cb E dL_harm_10)))⟩
    · rw [hE]
      exact ⟨[⟨0, 5, 6, 15⟩], ⟨0, 5, 11, 19⟩, [], rfl, (fun z hz => by
        simp only [List.mem_cons, List.not_mem_nil, or_false] at hz
        subst hz
        · exact Or.inr ⟨by decide, k_IOE, (k_gm 393 (by decide +kernel) (by decide +kernel)), by decide⟩), by decide, by decide, (k_gm 395 (by decide +kernel) (by decide +kernel)), by decide, by rw [tt_th, if_neg (by decide), tt_th, if_pos rfl]; exact (ss_as0 Cb dL_harm_11 rfl (by decide) (ss_sp Cb dL_harm_12 (by decide) (ss_ir Cb E dL_harm_15)))⟩
    ) (ss_ir Cb E dL_harm_5))))
theorem SN_L_harm {ad : Nat → Nat} {X : Cx} {res : Rs} (C : k_C ad X cL_harm RL 3 8 135) (E : k_E ad X (some .int) res) (h : kv_X3_harm ad X (sp_I f_harm)) : Sd ad X 0 (TN_L_harm ad res (sp_I f_harm)) := by
  unfold TN_L_harm
  exact (ss_al0 C dL_harm_0 rfl (ss_il0 C dL_harm_1 rfl (ss_cv k_rc0 C dL_harm_2 kc_RL_67 rfl h rfl (ss_ir C E dL_harm_5))))
theorem pw_harm (ad : Nat → Nat) (x0 : Int32) (M : Mm) (r : Rs) (h : wX [(k_IOE, (-903)), (k_ISE, (-902))] (f_harm x0 M) = some r) : T_L_harm ad r (sp_I f_harm) [some (.ref (ad 0)), some (.int x0), none] [] M := by
  unfold wX at h
  split at h
  · next v M1 hF =>
    cases h
    simp only [T_L_harm, tt_xc, tt_c, tt_lc, tt_il, tt_ll, tt_al, tt_is, tt_lsv, tt_as, tt_inc, tt_add, tt_sub, tt_mul, tt_and, tt_ladd, tt_lmul, tt_i2l, tt_lcmp, tt_dupr, tt_dup2, tt_eq0, tt_lt0, tt_le0, tt_ge0, tt_gt0, tt_eq2, tt_lt2, tt_ge2, tt_gt2, tt_le2, tt_gr, tt_gi, tt_pi, tt_gl, tt_pl, tt_ia, tt_st, tt_ir, tt_zr, tt_lr, tt_vr, tt_cv, tt_cs, tt_max, tt_min, tt_rem, tt_xor, tt_len, tt_cp, tt_thr, tt_xv, tt_xs, k_sv, k_cl, k_kz, List.getElem?_cons_zero, List.getElem?_cons_succ, List.drop_succ_cons, List.drop_zero, List.take_succ_cons, List.take_zero, List.reverse_cons, List.reverse_nil, List.nil_append, List.cons_append, List.length_cons, List.length_nil, Option.toList_some, Option.toList_none, Nat.reduceAdd, Nat.reduceLeDiff, true_and, and_true, sp_I, sp_II, sp_III, sp_JI, sp_JJ, sp_R2, sp_R5I, sp_V, hF]
  · next E M1 hF =>
    have hE : sp_I f_harm [.int x0] M = some (.inr (E, M1)) := hF
    have hE := fe_harm _ _ _ hE
    simp only [T_L_harm, tt_xc, tt_c, tt_lc, tt_il, tt_ll, tt_al, tt_is, tt_lsv, tt_as, tt_inc, tt_add, tt_sub, tt_mul, tt_and, tt_ladd, tt_lmul, tt_i2l, tt_lcmp, tt_dupr, tt_dup2, tt_eq0, tt_lt0, tt_le0, tt_ge0, tt_gt0, tt_eq2, tt_lt2, tt_ge2, tt_gt2, tt_le2, tt_gr, tt_gi, tt_pi, tt_gl, tt_pl, tt_ia, tt_st, tt_ir, tt_zr, tt_lr, tt_vr, tt_cv, tt_cs, tt_max, tt_min, tt_rem, tt_xor, tt_len, tt_cp, tt_thr, tt_xv, tt_xs, k_sv, k_cl, k_kz, List.getElem?_cons_zero, List.getElem?_cons_succ, List.drop_succ_cons, List.drop_zero, List.take_succ_cons, List.take_zero, List.reverse_cons, List.reverse_nil, List.nil_append, List.cons_append, List.length_cons, List.length_nil, Option.toList_some, Option.toList_none, Nat.reduceAdd, Nat.reduceLeDiff, true_and, and_true, sp_I, sp_II, sp_III, sp_JI, sp_JJ, sp_R2, sp_R5I, sp_V, hF]
    intro q
    dsimp only at hE
    rcases hE with rfl | rfl
    · rw [wE, if_pos rfl] at h
      cases h
      rw [tt_th, if_pos rfl]
      simp only [tt_c, tt_lc, tt_il, tt_ll, tt_al, tt_is, tt_lsv, tt_as, tt_inc, tt_add, tt_sub, tt_mul, tt_and, tt_ladd, tt_lmul, tt_i2l, tt_lcmp, tt_dupr, tt_dup2, tt_eq0, tt_lt0, tt_le0, tt_ge0, tt_gt0, tt_eq2, tt_lt2, tt_ge2, tt_gt2, tt_le2, tt_gr, tt_gi, tt_pi, tt_gl, tt_pl, tt_ia, tt_st, tt_ir, tt_zr, tt_lr, tt_vr, tt_cv, tt_cs, tt_max, tt_min, tt_rem, tt_xor, tt_len, tt_cp, tt_thr, tt_xv, tt_xs, k_sv, k_cl, k_kz, List.getElem?_cons_zero, List.getElem?_cons_succ, List.drop_succ_cons, List.drop_zero, List.take_succ_cons, List.take_zero, List.reverse_cons, List.reverse_nil, List.nil_append, List.cons_append, List.length_cons, List.length_nil, Option.toList_some, Option.toList_none, Nat.reduceAdd, Nat.reduceLeDiff, true_and, and_true, sp_I, sp_II, sp_III, sp_JI, sp_JJ, sp_R2, sp_R5I, sp_V]
    · rw [wE, if_neg (show ¬ k_ISE = k_IOE by decide), wE, if_pos rfl] at h
      cases h
      rw [tt_th, if_neg (show ¬ k_ISE = k_IOE by decide), tt_th, if_pos rfl]
      simp only [tt_c, tt_lc, tt_il, tt_ll, tt_al, tt_is, tt_lsv, tt_as, tt_inc, tt_add, tt_sub, tt_mul, tt_and, tt_ladd, tt_lmul, tt_i2l, tt_lcmp, tt_dupr, tt_dup2, tt_eq0, tt_lt0, tt_le0, tt_ge0, tt_gt0, tt_eq2, tt_lt2, tt_ge2, tt_gt2, tt_le2, tt_gr, tt_gi, tt_pi, tt_gl, tt_pl, tt_ia, tt_st, tt_ir, tt_zr, tt_lr, tt_vr, tt_cv, tt_cs, tt_max, tt_min, tt_rem, tt_xor, tt_len, tt_cp, tt_thr, tt_xv, tt_xs, k_sv, k_cl, k_kz, List.getElem?_cons_zero, List.getElem?_cons_succ, List.drop_succ_cons, List.drop_zero, List.take_succ_cons, List.take_zero, List.reverse_cons, List.reverse_nil, List.nil_append, List.cons_append, List.length_cons, List.length_nil, Option.toList_some, Option.toList_none, Nat.reduceAdd, Nat.reduceLeDiff, true_and, and_true, sp_I, sp_II, sp_III, sp_JI, sp_JJ, sp_R2, sp_R5I, sp_V]
  · cases h
theorem pn_harm (ad : Nat → Nat) (x0 : Int32) (M : Mm) (r : Rs) (h : wN (f_harm x0 M) = some r) : TN_L_harm ad r (sp_I f_harm) [some (.ref (ad 0)), some (.int x0), none] [] M := by
  unfold wN at h
  split at h
  · next v M1 hF =>
    cases h
    simp only [TN_L_harm, tt_c, tt_lc, tt_il, tt_ll, tt_al, tt_is, tt_lsv, tt_as, tt_inc, tt_add, tt_sub, tt_mul, tt_and, tt_ladd, tt_lmul, tt_i2l, tt_lcmp, tt_dupr, tt_dup2, tt_eq0, tt_lt0, tt_le0, tt_ge0, tt_gt0, tt_eq2, tt_lt2, tt_ge2, tt_gt2, tt_le2, tt_gr, tt_gi, tt_pi, tt_gl, tt_pl, tt_ia, tt_st, tt_ir, tt_zr, tt_lr, tt_vr, tt_cv, tt_cs, tt_max, tt_min, tt_rem, tt_xor, tt_len, tt_cp, tt_thr, tt_xv, tt_xs, k_sv, k_cl, k_kz, List.getElem?_cons_zero, List.getElem?_cons_succ, List.drop_succ_cons, List.drop_zero, List.take_succ_cons, List.take_zero, List.reverse_cons, List.reverse_nil, List.nil_append, List.cons_append, List.length_cons, List.length_nil, Option.toList_some, Option.toList_none, Nat.reduceAdd, Nat.reduceLeDiff, true_and, and_true, sp_I, sp_II, sp_III, sp_JI, sp_JJ, sp_R2, sp_R5I, sp_V, hF]
  · cases h
def sw_harm (ad : Nat → Nat) : Sp := fun As M => match As with
  | [.ref a0, .int x0] => if a0 = ad 0 then wX [(k_IOE, (-903)), (k_ISE, (-902))] (f_harm x0 M) else none
  | _ => none
def sn_harm (ad : Nat → Nat) : Sp := fun As M => match As with
  | [.ref a0, .int x0] => if a0 = ad 0 then wN (f_harm x0 M) else none
  | _ => none
theorem wr_harm {l : Launch} {ad : Nat → Nat} {D : va_G} {cI cL : ClassId} (hI : k_I ad) (hf : l.stackTraces = false) : k_Wr l ad D cI cL yL_harm cL_harm 3 hh_harm 8 135 (sw_harm ad) :=
  k_wr (tree := fun r => T_L_harm ad r (sp_I f_harm)) hI (by decide +kernel) (fun X res hl hD C E T => S_L_harm C E T (k_cvOf hl hD (cc_X3_harm hI hf).1) (k_ctOf hl hD (cc_X3_harm hI hf).2)) (fun As M r hF => by
    unfold sw_harm at hF
    split at hF
    · split at hF
      · next hc =>
        obtain rfl := hc
        exact ⟨Nat.le_of_ble_eq_true rfl, _, k_inL rfl, pw_harm ad _ M _ hF⟩
      · cases hF
    · cases hF)
theorem wn_harm {l : Launch} {ad : Nat → Nat} {D : va_G} {cI cL : ClassId} (hI : k_I ad) (hf : l.stackTraces = false) : k_WrN l ad D cI cL yL_harm cL_harm 3 hh_harm 8 135 (sn_harm ad) :=
  k_wrN (tree := fun r => TN_L_harm ad r (sp_I f_harm)) hI (by decide +kernel) (fun X res hl hD C E => SN_L_harm C E (k_cvOf hl hD (cc_X3_harm hI hf).1)) (fun As M r hF => by
    unfold sn_harm at hF
    split at hF
    · split at hF
      · next hc =>
        obtain rfl := hc
        exact ⟨Nat.le_of_ble_eq_true rfl, _, k_inL rfl, pn_harm ad _ M _ hF⟩
      · cases hF
    · cases hF)
abbrev hh_pieces : List (Nat × Nat × Nat × Nat) := [(0, 5, 6, 15), (0, 5, 11, 19)]
theorem fe_pieces (As : List Value) (M : Mm) (e : String × Mm) (h : sp_I f_pieces As M = some (.inr e)) : e.1 = k_IOE ∨ e.1 = k_ISE := by
  unfold sp_I at h
  split at h
  · simp only [f_pieces, q_ms] at h
    (repeat' split at h) <;> first | (cases h; done) | (cases h; simp)
  · cases h
def T_L_pieces (ad : Nat → Nat) (res : Rs) (F : Sp) : Tr := (tt_al 0 (tt_il 1 (tt_xc ad 0 1 F (tt_ir res) (tt_th [(k_IOE, (tt_as 2 (tt_c (-903) (tt_ir res)))), (k_ISE, (tt_as 2 (tt_c (-902) (tt_ir res))))]))))
def TN_L_pieces (ad : Nat → Nat) (res : Rs) (F : Sp) : Tr := (tt_al 0 (tt_il 1 (tt_cv ad 0 1 F (tt_ir res))))
theorem S_L_pieces {ad : Nat → Nat} {X : Cx} {res : Rs} (C : k_C ad X cL_pieces RL 3 8 132) (E : k_E ad (k_bump X) (some .int) res) (T : k_TW X hh_pieces) (h : kv_X3_pieces ad X (sp_I f_pieces)) (hx : kt_X3_pieces ad X (sp_I f_pieces)) : Sd ad X 0 (T_L_pieces ad res (sp_I f_pieces)) := by
  have Cb := k_Cb C T
  unfold T_L_pieces
  exact (ss_al0 C dL_pieces_0 rfl (ss_il0 C dL_pieces_1 rfl (ss_xc (hh := hh_pieces) k_rc0 C T dL_pieces_2 kc_RL_70 rfl h hx rfl (fun As M e h => by
    have hE := fe_pieces As M e h
    rcases hE with hE | hE
    · rw [hE]
      exact ⟨[], ⟨0, 5, 6, 15⟩, [⟨0, 5, 11, 19⟩], rfl, (fun z hz => absurd hz List.not_mem_nil), by decide, by decide, (k_gm 393 (by decide +kernel) (by decide +kernel)), by decide, by rw [tt_th, if_pos rfl]; exact (ss_as0 Cb dL_pieces_6 rfl (by decide) (ss_sp Cb dL_pieces_7 (by decide) (ss_ir Cb E dL_pieces_10)))⟩
    · rw [hE]
      exact ⟨[⟨0, 5, 6, 15⟩], ⟨0, 5, 11, 19⟩, [], rfl, (fun z hz => by
        simp only [List.mem_cons, List.not_mem_nil, or_false] at hz
        subst hz
        · exact Or.inr ⟨by decide, k_IOE, (k_gm 393 (by decide +kernel) (by decide +kernel)), by decide⟩), by decide, by decide, (k_gm 395 (by decide +kernel) (by decide +kernel)), by decide, by rw [tt_th, if_neg (by decide), tt_th, if_pos rfl]; exact (ss_as0 Cb dL_pieces_11 rfl (by decide) (ss_sp Cb dL_pieces_12 (by decide) (ss_ir Cb E dL_pieces_15)))⟩
    ) (ss_ir Cb E dL_pieces_5))))
theorem SN_L_pieces {ad : Nat → Nat} {X : Cx} {res : Rs} (C : k_C ad X cL_pieces RL 3 8 132) (E : k_E ad X (some .int) res) (h : kv_X3_pieces ad X (sp_I f_pieces)) : Sd ad X 0 (TN_L_pieces ad res (sp_I f_pieces)) := by
  unfold TN_L_pieces
  exact (ss_al0 C dL_pieces_0 rfl (ss_il0 C dL_pieces_1 rfl (ss_cv k_rc0 C dL_pieces_2 kc_RL_70 rfl h rfl (ss_ir C E dL_pieces_5))))
theorem pw_pieces (ad : Nat → Nat) (x0 : Int32) (M : Mm) (r : Rs) (h : wX [(k_IOE, (-903)), (k_ISE, (-902))] (f_pieces x0 M) = some r) : T_L_pieces ad r (sp_I f_pieces) [some (.ref (ad 0)), some (.int x0), none] [] M := by
  unfold wX at h
  split at h
  · next v M1 hF =>
    cases h
    simp only [T_L_pieces, tt_xc, tt_c, tt_lc, tt_il, tt_ll, tt_al, tt_is, tt_lsv, tt_as, tt_inc, tt_add, tt_sub, tt_mul, tt_and, tt_ladd, tt_lmul, tt_i2l, tt_lcmp, tt_dupr, tt_dup2, tt_eq0, tt_lt0, tt_le0, tt_ge0, tt_gt0, tt_eq2, tt_lt2, tt_ge2, tt_gt2, tt_le2, tt_gr, tt_gi, tt_pi, tt_gl, tt_pl, tt_ia, tt_st, tt_ir, tt_zr, tt_lr, tt_vr, tt_cv, tt_cs, tt_max, tt_min, tt_rem, tt_xor, tt_len, tt_cp, tt_thr, tt_xv, tt_xs, k_sv, k_cl, k_kz, List.getElem?_cons_zero, List.getElem?_cons_succ, List.drop_succ_cons, List.drop_zero, List.take_succ_cons, List.take_zero, List.reverse_cons, List.reverse_nil, List.nil_append, List.cons_append, List.length_cons, List.length_nil, Option.toList_some, Option.toList_none, Nat.reduceAdd, Nat.reduceLeDiff, true_and, and_true, sp_I, sp_II, sp_III, sp_JI, sp_JJ, sp_R2, sp_R5I, sp_V, hF]
  · next E M1 hF =>
    have hE : sp_I f_pieces [.int x0] M = some (.inr (E, M1)) := hF
    have hE := fe_pieces _ _ _ hE
    simp only [T_L_pieces, tt_xc, tt_c, tt_lc, tt_il, tt_ll, tt_al, tt_is, tt_lsv, tt_as, tt_inc, tt_add, tt_sub, tt_mul, tt_and, tt_ladd, tt_lmul, tt_i2l, tt_lcmp, tt_dupr, tt_dup2, tt_eq0, tt_lt0, tt_le0, tt_ge0, tt_gt0, tt_eq2, tt_lt2, tt_ge2, tt_gt2, tt_le2, tt_gr, tt_gi, tt_pi, tt_gl, tt_pl, tt_ia, tt_st, tt_ir, tt_zr, tt_lr, tt_vr, tt_cv, tt_cs, tt_max, tt_min, tt_rem, tt_xor, tt_len, tt_cp, tt_thr, tt_xv, tt_xs, k_sv, k_cl, k_kz, List.getElem?_cons_zero, List.getElem?_cons_succ, List.drop_succ_cons, List.drop_zero, List.take_succ_cons, List.take_zero, List.reverse_cons, List.reverse_nil, List.nil_append, List.cons_append, List.length_cons, List.length_nil, Option.toList_some, Option.toList_none, Nat.reduceAdd, Nat.reduceLeDiff, true_and, and_true, sp_I, sp_II, sp_III, sp_JI, sp_JJ, sp_R2, sp_R5I, sp_V, hF]
    intro q
    dsimp only at hE
    rcases hE with rfl | rfl
    · rw [wE, if_pos rfl] at h
      cases h
      rw [tt_th, if_pos rfl]
      simp only [tt_c, tt_lc, tt_il, tt_ll, tt_al, tt_is, tt_lsv, tt_as, tt_inc, tt_add, tt_sub, tt_mul, tt_and, tt_ladd, tt_lmul, tt_i2l, tt_lcmp, tt_dupr, tt_dup2, tt_eq0, tt_lt0, tt_le0, tt_ge0, tt_gt0, tt_eq2, tt_lt2, tt_ge2, tt_gt2, tt_le2, tt_gr, tt_gi, tt_pi, tt_gl, tt_pl, tt_ia, tt_st, tt_ir, tt_zr, tt_lr, tt_vr, tt_cv, tt_cs, tt_max, tt_min, tt_rem, tt_xor, tt_len, tt_cp, tt_thr, tt_xv, tt_xs, k_sv, k_cl, k_kz, List.getElem?_cons_zero, List.getElem?_cons_succ, List.drop_succ_cons, List.drop_zero, List.take_succ_cons, List.take_zero, List.reverse_cons, List.reverse_nil, List.nil_append, List.cons_append, List.length_cons, List.length_nil, Option.toList_some, Option.toList_none, Nat.reduceAdd, Nat.reduceLeDiff, true_and, and_true, sp_I, sp_II, sp_III, sp_JI, sp_JJ, sp_R2, sp_R5I, sp_V]
    · rw [wE, if_neg (show ¬ k_ISE = k_IOE by decide), wE, if_pos rfl] at h
      cases h
      rw [tt_th, if_neg (show ¬ k_ISE = k_IOE by decide), tt_th, if_pos rfl]
      simp only [tt_c, tt_lc, tt_il, tt_ll, tt_al, tt_is, tt_lsv, tt_as, tt_inc, tt_add, tt_sub, tt_mul, tt_and, tt_ladd, tt_lmul, tt_i2l, tt_lcmp, tt_dupr, tt_dup2, tt_eq0, tt_lt0, tt_le0, tt_ge0, tt_gt0, tt_eq2, tt_lt2, tt_ge2, tt_gt2, tt_le2, tt_gr, tt_gi, tt_pi, tt_gl, tt_pl, tt_ia, tt_st, tt_ir, tt_zr, tt_lr, tt_vr, tt_cv, tt_cs, tt_max, tt_min, tt_rem, tt_xor, tt_len, tt_cp, tt_thr, tt_xv, tt_xs, k_sv, k_cl, k_kz, List.getElem?_cons_zero, List.getElem?_cons_succ, List.drop_succ_cons, List.drop_zero, List.take_succ_cons, List.take_zero, List.reverse_cons, List.reverse_nil, List.nil_append, List.cons_append, List.length_cons, List.length_nil, Option.toList_some, Option.toList_none, Nat.reduceAdd, Nat.reduceLeDiff, true_and, and_true, sp_I, sp_II, sp_III, sp_JI, sp_JJ, sp_R2, sp_R5I, sp_V]
  · cases h
theorem pn_pieces (ad : Nat → Nat) (x0 : Int32) (M : Mm) (r : Rs) (h : wN (f_pieces x0 M) = some r) : TN_L_pieces ad r (sp_I f_pieces) [some (.ref (ad 0)), some (.int x0), none] [] M := by
  unfold wN at h
  split at h
  · next v M1 hF =>
    cases h
    simp only [TN_L_pieces, tt_c, tt_lc, tt_il, tt_ll, tt_al, tt_is, tt_lsv, tt_as, tt_inc, tt_add, tt_sub, tt_mul, tt_and, tt_ladd, tt_lmul, tt_i2l, tt_lcmp, tt_dupr, tt_dup2, tt_eq0, tt_lt0, tt_le0, tt_ge0, tt_gt0, tt_eq2, tt_lt2, tt_ge2, tt_gt2, tt_le2, tt_gr, tt_gi, tt_pi, tt_gl, tt_pl, tt_ia, tt_st, tt_ir, tt_zr, tt_lr, tt_vr, tt_cv, tt_cs, tt_max, tt_min, tt_rem, tt_xor, tt_len, tt_cp, tt_thr, tt_xv, tt_xs, k_sv, k_cl, k_kz, List.getElem?_cons_zero, List.getElem?_cons_succ, List.drop_succ_cons, List.drop_zero, List.take_succ_cons, List.take_zero, List.reverse_cons, List.reverse_nil, List.nil_append, List.cons_append, List.length_cons, List.length_nil, Option.toList_some, Option.toList_none, Nat.reduceAdd, Nat.reduceLeDiff, true_and, and_true, sp_I, sp_II, sp_III, sp_JI, sp_JJ, sp_R2, sp_R5I, sp_V, hF]
  · cases h
def sw_pieces (ad : Nat → Nat) : Sp := fun As M => match As with
  | [.ref a0, .int x0] => if a0 = ad 0 then wX [(k_IOE, (-903)), (k_ISE, (-902))] (f_pieces x0 M) else none
  | _ => none
def sn_pieces (ad : Nat → Nat) : Sp := fun As M => match As with
  | [.ref a0, .int x0] => if a0 = ad 0 then wN (f_pieces x0 M) else none
  | _ => none
theorem wr_pieces {l : Launch} {ad : Nat → Nat} {D : va_G} {cI cL : ClassId} (hI : k_I ad) (hf : l.stackTraces = false) : k_Wr l ad D cI cL yL_pieces cL_pieces 3 hh_pieces 8 132 (sw_pieces ad) :=
  k_wr (tree := fun r => T_L_pieces ad r (sp_I f_pieces)) hI (by decide +kernel) (fun X res hl hD C E T => S_L_pieces C E T (k_cvOf hl hD (cc_X3_pieces hI hf).1) (k_ctOf hl hD (cc_X3_pieces hI hf).2)) (fun As M r hF => by
    unfold sw_pieces at hF
    split at hF
    · split at hF
      · next hc =>
        obtain rfl := hc
        exact ⟨Nat.le_of_ble_eq_true rfl, _, k_inL rfl, pw_pieces ad _ M _ hF⟩
      · cases hF
    · cases hF)
theorem wn_pieces {l : Launch} {ad : Nat → Nat} {D : va_G} {cI cL : ClassId} (hI : k_I ad) (hf : l.stackTraces = false) : k_WrN l ad D cI cL yL_pieces cL_pieces 3 hh_pieces 8 132 (sn_pieces ad) :=
  k_wrN (tree := fun r => TN_L_pieces ad r (sp_I f_pieces)) hI (by decide +kernel) (fun X res hl hD C E => SN_L_pieces C E (k_cvOf hl hD (cc_X3_pieces hI hf).1)) (fun As M r hF => by
    unfold sn_pieces at hF
    split at hF
    · split at hF
      · next hc =>
        obtain rfl := hc
        exact ⟨Nat.le_of_ble_eq_true rfl, _, k_inL rfl, pn_pieces ad _ M _ hF⟩
      · cases hF
    · cases hF)
abbrev hh_stripe : List (Nat × Nat × Nat × Nat) := [(0, 6, 7, 15), (0, 6, 12, 17)]
theorem fe_stripe (As : List Value) (M : Mm) (e : String × Mm) (h : sp_II f_stripe As M = some (.inr e)) : e.1 = k_IOE ∨ e.1 = k_IAE := by
  unfold sp_II at h
  split at h
  · simp only [f_stripe, q_ms] at h
    (repeat' split at h) <;> first | (cases h; done) | (cases h; simp)
  · cases h
def T_L_stripe (ad : Nat → Nat) (res : Rs) (F : Sp) : Tr := (tt_al 0 (tt_il 1 (tt_il 2 (tt_xc ad 0 2 F (tt_ir res) (tt_th [(k_IOE, (tt_as 3 (tt_c (-903) (tt_ir res)))), (k_IAE, (tt_as 3 (tt_c (-901) (tt_ir res))))])))))
def TN_L_stripe (ad : Nat → Nat) (res : Rs) (F : Sp) : Tr := (tt_al 0 (tt_il 1 (tt_il 2 (tt_cv ad 0 2 F (tt_ir res)))))
theorem S_L_stripe {ad : Nat → Nat} {X : Cx} {res : Rs} (C : k_C ad X cL_stripe RL 4 8 134) (E : k_E ad (k_bump X) (some .int) res) (T : k_TW X hh_stripe) (h : kv_X3_stripe ad X (sp_II f_stripe)) (hx : kt_X3_stripe ad X (sp_II f_stripe)) : Sd ad X 0 (T_L_stripe ad res (sp_II f_stripe)) := by
  have Cb := k_Cb C T
  unfold T_L_stripe
  exact (ss_al0 C dL_stripe_0 rfl (ss_il0 C dL_stripe_1 rfl (ss_il0 C dL_stripe_2 rfl (ss_xc (hh := hh_stripe) k_rc0 C T dL_stripe_3 kc_RL_73 rfl h hx rfl (fun As M e h => by
    have hE := fe_stripe As M e h
    rcases hE with hE | hE
    · rw [hE]
      exact ⟨[], ⟨0, 6, 7, 15⟩, [⟨0, 6, 12, 17⟩], rfl, (fun z hz => absurd hz List.not_mem_nil), by decide, by decide, (k_gm 393 (by decide +kernel) (by decide +kernel)), by decide, by rw [tt_th, if_pos rfl]; exact (ss_as0 Cb dL_stripe_7 rfl (by decide) (ss_sp Cb dL_stripe_8 (by decide) (ss_ir Cb E dL_stripe_11)))⟩
    · rw [hE]
      exact ⟨[⟨0, 6, 7, 15⟩], ⟨0, 6, 12, 17⟩, [], rfl, (fun z hz => by
        simp only [List.mem_cons, List.not_mem_nil, or_false] at hz
        subst hz
        · exact Or.inr ⟨by decide, k_IOE, (k_gm 393 (by decide +kernel) (by decide +kernel)), by decide⟩), by decide, by decide, (k_gm 394 (by decide +kernel) (by decide +kernel)), by decide, by rw [tt_th, if_neg (by decide), tt_th, if_pos rfl]; exact (ss_as0 Cb dL_stripe_12 rfl (by decide) (ss_sp Cb dL_stripe_13 (by decide) (ss_ir Cb E dL_stripe_16)))⟩
    ) (ss_ir Cb E dL_stripe_6)))))
theorem SN_L_stripe {ad : Nat → Nat} {X : Cx} {res : Rs} (C : k_C ad X cL_stripe RL 4 8 134) (E : k_E ad X (some .int) res) (h : kv_X3_stripe ad X (sp_II f_stripe)) : Sd ad X 0 (TN_L_stripe ad res (sp_II f_stripe)) := by
  unfold TN_L_stripe
  exact (ss_al0 C dL_stripe_0 rfl (ss_il0 C dL_stripe_1 rfl (ss_il0 C dL_stripe_2 rfl (ss_cv k_rc0 C dL_stripe_3 kc_RL_73 rfl h rfl (ss_ir C E dL_stripe_6)))))
theorem pw_stripe (ad : Nat → Nat) (x0 : Int32) (x1 : Int32) (M : Mm) (r : Rs) (h : wX [(k_IOE, (-903)), (k_IAE, (-901))] (f_stripe x0 x1 M) = some r) : T_L_stripe ad r (sp_II f_stripe) [some (.ref (ad 0)), some (.int x0), some (.int x1), none] [] M := by
  unfold wX at h
  split at h
  · next v M1 hF =>
    cases h
    simp only [T_L_stripe, tt_xc, tt_c, tt_lc, tt_il, tt_ll, tt_al, tt_is, tt_lsv, tt_as, tt_inc, tt_add, tt_sub, tt_mul, tt_and, tt_ladd, tt_lmul, tt_i2l, tt_lcmp, tt_dupr, tt_dup2, tt_eq0, tt_lt0, tt_le0, tt_ge0, tt_gt0, tt_eq2, tt_lt2, tt_ge2, tt_gt2, tt_le2, tt_gr, tt_gi, tt_pi, tt_gl, tt_pl, tt_ia, tt_st, tt_ir, tt_zr, tt_lr, tt_vr, tt_cv, tt_cs, tt_max, tt_min, tt_rem, tt_xor, tt_len, tt_cp, tt_thr, tt_xv, tt_xs, k_sv, k_cl, k_kz, List.getElem?_cons_zero, List.getElem?_cons_succ, List.drop_succ_cons, List.drop_zero, List.take_succ_cons, List.take_zero, List.reverse_cons, List.reverse_nil, List.nil_append, List.cons_append, List.length_cons, List.length_nil, Option.toList_some, Option.toList_none, Nat.reduceAdd, Nat.reduceLeDiff, true_and, and_true, sp_I, sp_II, sp_III, sp_JI, sp_JJ, sp_R2, sp_R5I, sp_V, hF]
  · next E M1 hF =>
    have hE : sp_II f_stripe [.int x0, .int x1] M = some (.inr (E, M1)) := hF
    have hE := fe_stripe _ _ _ hE
    simp only [T_L_stripe, tt_xc, tt_c, tt_lc, tt_il, tt_ll, tt_al, tt_is, tt_lsv, tt_as, tt_inc, tt_add, tt_sub, tt_mul, tt_and, tt_ladd, tt_lmul, tt_i2l, tt_lcmp, tt_dupr, tt_dup2, tt_eq0, tt_lt0, tt_le0, tt_ge0, tt_gt0, tt_eq2, tt_lt2, tt_ge2, tt_gt2, tt_le2, tt_gr, tt_gi, tt_pi, tt_gl, tt_pl, tt_ia, tt_st, tt_ir, tt_zr, tt_lr, tt_vr, tt_cv, tt_cs, tt_max, tt_min, tt_rem, tt_xor, tt_len, tt_cp, tt_thr, tt_xv, tt_xs, k_sv, k_cl, k_kz, List.getElem?_cons_zero, List.getElem?_cons_succ, List.drop_succ_cons, List.drop_zero, List.take_succ_cons, List.take_zero, List.reverse_cons, List.reverse_nil, List.nil_append, List.cons_append, List.length_cons, List.length_nil, Option.toList_some, Option.toList_none, Nat.reduceAdd, Nat.reduceLeDiff, true_and, and_true, sp_I, sp_II, sp_III, sp_JI, sp_JJ, sp_R2, sp_R5I, sp_V, hF]
    intro q
    dsimp only at hE
    rcases hE with rfl | rfl
    · rw [wE, if_pos rfl] at h
      cases h
      rw [tt_th, if_pos rfl]
      simp only [tt_c, tt_lc, tt_il, tt_ll, tt_al, tt_is, tt_lsv, tt_as, tt_inc, tt_add, tt_sub, tt_mul, tt_and, tt_ladd, tt_lmul, tt_i2l, tt_lcmp, tt_dupr, tt_dup2, tt_eq0, tt_lt0, tt_le0, tt_ge0, tt_gt0, tt_eq2, tt_lt2, tt_ge2, tt_gt2, tt_le2, tt_gr, tt_gi, tt_pi, tt_gl, tt_pl, tt_ia, tt_st, tt_ir, tt_zr, tt_lr, tt_vr, tt_cv, tt_cs, tt_max, tt_min, tt_rem, tt_xor, tt_len, tt_cp, tt_thr, tt_xv, tt_xs, k_sv, k_cl, k_kz, List.getElem?_cons_zero, List.getElem?_cons_succ, List.drop_succ_cons, List.drop_zero, List.take_succ_cons, List.take_zero, List.reverse_cons, List.reverse_nil, List.nil_append, List.cons_append, List.length_cons, List.length_nil, Option.toList_some, Option.toList_none, Nat.reduceAdd, Nat.reduceLeDiff, true_and, and_true, sp_I, sp_II, sp_III, sp_JI, sp_JJ, sp_R2, sp_R5I, sp_V]
    · rw [wE, if_neg (show ¬ k_IAE = k_IOE by decide), wE, if_pos rfl] at h
      cases h
      rw [tt_th, if_neg (show ¬ k_IAE = k_IOE by decide), tt_th, if_pos rfl]
      simp only [tt_c, tt_lc, tt_il, tt_ll, tt_al, tt_is, tt_lsv, tt_as, tt_inc, tt_add, tt_sub, tt_mul, tt_and, tt_ladd, tt_lmul, tt_i2l, tt_lcmp, tt_dupr, tt_dup2, tt_eq0, tt_lt0, tt_le0, tt_ge0, tt_gt0, tt_eq2, tt_lt2, tt_ge2, tt_gt2, tt_le2, tt_gr, tt_gi, tt_pi, tt_gl, tt_pl, tt_ia, tt_st, tt_ir, tt_zr, tt_lr, tt_vr, tt_cv, tt_cs, tt_max, tt_min, tt_rem, tt_xor, tt_len, tt_cp, tt_thr, tt_xv, tt_xs, k_sv, k_cl, k_kz, List.getElem?_cons_zero, List.getElem?_cons_succ, List.drop_succ_cons, List.drop_zero, List.take_succ_cons, List.take_zero, List.reverse_cons, List.reverse_nil, List.nil_append, List.cons_append, List.length_cons, List.length_nil, Option.toList_some, Option.toList_none, Nat.reduceAdd, Nat.reduceLeDiff, true_and, and_true, sp_I, sp_II, sp_III, sp_JI, sp_JJ, sp_R2, sp_R5I, sp_V]
  · cases h
theorem pn_stripe (ad : Nat → Nat) (x0 : Int32) (x1 : Int32) (M : Mm) (r : Rs) (h : wN (f_stripe x0 x1 M) = some r) : TN_L_stripe ad r (sp_II f_stripe) [some (.ref (ad 0)), some (.int x0), some (.int x1), none] [] M := by
  unfold wN at h
  split at h
  · next v M1 hF =>
    cases h
    simp only [TN_L_stripe, tt_c, tt_lc, tt_il, tt_ll, tt_al, tt_is, tt_lsv, tt_as, tt_inc, tt_add, tt_sub, tt_mul, tt_and, tt_ladd, tt_lmul, tt_i2l, tt_lcmp, tt_dupr, tt_dup2, tt_eq0, tt_lt0, tt_le0, tt_ge0, tt_gt0, tt_eq2, tt_lt2, tt_ge2, tt_gt2, tt_le2, tt_gr, tt_gi, tt_pi, tt_gl, tt_pl, tt_ia, tt_st, tt_ir, tt_zr, tt_lr, tt_vr, tt_cv, tt_cs, tt_max, tt_min, tt_rem, tt_xor, tt_len, tt_cp, tt_thr, tt_xv, tt_xs, k_sv, k_cl, k_kz, List.getElem?_cons_zero, List.getElem?_cons_succ, List.drop_succ_cons, List.drop_zero, List.take_succ_cons, List.take_zero, List.reverse_cons, List.reverse_nil, List.nil_append, List.cons_append, List.length_cons, List.length_nil, Option.toList_some, Option.toList_none, Nat.reduceAdd, Nat.reduceLeDiff, true_and, and_true, sp_I, sp_II, sp_III, sp_JI, sp_JJ, sp_R2, sp_R5I, sp_V, hF]
  · cases h
def sw_stripe (ad : Nat → Nat) : Sp := fun As M => match As with
  | [.ref a0, .int x0, .int x1] => if a0 = ad 0 then wX [(k_IOE, (-903)), (k_IAE, (-901))] (f_stripe x0 x1 M) else none
  | _ => none
def sn_stripe (ad : Nat → Nat) : Sp := fun As M => match As with
  | [.ref a0, .int x0, .int x1] => if a0 = ad 0 then wN (f_stripe x0 x1 M) else none
  | _ => none
theorem wr_stripe {l : Launch} {ad : Nat → Nat} {D : va_G} {cI cL : ClassId} (hI : k_I ad) (hf : l.stackTraces = false) : k_Wr l ad D cI cL yL_stripe cL_stripe 4 hh_stripe 8 134 (sw_stripe ad) :=
  k_wr (tree := fun r => T_L_stripe ad r (sp_II f_stripe)) hI (by decide +kernel) (fun X res hl hD C E T => S_L_stripe C E T (k_cvOf hl hD (cc_X3_stripe hI hf).1) (k_ctOf hl hD (cc_X3_stripe hI hf).2)) (fun As M r hF => by
    unfold sw_stripe at hF
    split at hF
    · split at hF
      · next hc =>
        obtain rfl := hc
        exact ⟨Nat.le_of_ble_eq_true rfl, _, k_inL rfl, pw_stripe ad _ _ M _ hF⟩
      · cases hF
    · cases hF)
theorem wn_stripe {l : Launch} {ad : Nat → Nat} {D : va_G} {cI cL : ClassId} (hI : k_I ad) (hf : l.stackTraces = false) : k_WrN l ad D cI cL yL_stripe cL_stripe 4 hh_stripe 8 134 (sn_stripe ad) :=
  k_wrN (tree := fun r => TN_L_stripe ad r (sp_II f_stripe)) hI (by decide +kernel) (fun X res hl hD C E => SN_L_stripe C E (k_cvOf hl hD (cc_X3_stripe hI hf).1)) (fun As M r hF => by
    unfold sn_stripe at hF
    split at hF
    · split at hF
      · next hc =>
        obtain rfl := hc
        exact ⟨Nat.le_of_ble_eq_true rfl, _, k_inL rfl, pn_stripe ad _ _ M _ hF⟩
      · cases hF
    · cases hF)
abbrev hh_count : List (Nat × Nat × Nat × Nat) := [(0, 5, 6, 17)]
theorem fe_count (As : List Value) (M : Mm) (e : String × Mm) (h : sp_I f_count As M = some (.inr e)) : e.1 = k_IAE := by
  unfold sp_I at h
  split at h
  · simp only [f_count, q_ms] at h
    (repeat' split at h) <;> first | (cases h; done) | (cases h; simp)
  · cases h
def T_L_count (ad : Nat → Nat) (res : Rs) (F : Sp) : Tr := (tt_al 0 (tt_il 1 (tt_xc ad 0 1 F (tt_ir res) (tt_th [(k_IAE, (tt_as 2 (tt_c (-901) (tt_ir res))))]))))
def TN_L_count (ad : Nat → Nat) (res : Rs) (F : Sp) : Tr := (tt_al 0 (tt_il 1 (tt_cv ad 0 1 F (tt_ir res))))
theorem S_L_count {ad : Nat → Nat} {X : Cx} {res : Rs} (C : k_C ad X cL_count RL 3 8 133) (E : k_E ad (k_bump X) (some .int) res) (T : k_TW X hh_count) (h : kv_X3_count ad X (sp_I f_count)) (hx : kt_X3_count ad X (sp_I f_count)) : Sd ad X 0 (T_L_count ad res (sp_I f_count)) := by
  have Cb := k_Cb C T
  unfold T_L_count
  exact (ss_al0 C dL_count_0 rfl (ss_il0 C dL_count_1 rfl (ss_xc (hh := hh_count) k_rc0 C T dL_count_2 kc_RL_76 rfl h hx rfl (fun As M e h => by
    have hE := fe_count As M e h
    skip
    · rw [hE]
      exact ⟨[], ⟨0, 5, 6, 17⟩, [], rfl, (fun z hz => absurd hz List.not_mem_nil), by decide, by decide, (k_gm 394 (by decide +kernel) (by decide +kernel)), by decide, by rw [tt_th, if_pos rfl]; exact (ss_as0 Cb dL_count_6 rfl (by decide) (ss_sp Cb dL_count_7 (by decide) (ss_ir Cb E dL_count_10)))⟩
    ) (ss_ir Cb E dL_count_5))))
theorem SN_L_count {ad : Nat → Nat} {X : Cx} {res : Rs} (C : k_C ad X cL_count RL 3 8 133) (E : k_E ad X (some .int) res) (h : kv_X3_count ad X (sp_I f_count)) : Sd ad X 0 (TN_L_count ad res (sp_I f_count)) := by
  unfold TN_L_count
  exact (ss_al0 C dL_count_0 rfl (ss_il0 C dL_count_1 rfl (ss_cv k_rc0 C dL_count_2 kc_RL_76 rfl h rfl (ss_ir C E dL_count_5))))
theorem pw_count (ad : Nat → Nat) (x0 : Int32) (M : Mm) (r : Rs) (h : wX [(k_IAE, (-901))] (f_count x0 M) = some r) : T_L_count ad r (sp_I f_count) [some (.ref (ad 0)), some (.int x0), none] [] M := by
  unfold wX at h
  split at h
  · next v M1 hF =>
    cases h
    simp only [T_L_count, tt_xc, tt_c, tt_lc, tt_il, tt_ll, tt_al, tt_is, tt_lsv, tt_as, tt_inc, tt_add, tt_sub, tt_mul, tt_and, tt_ladd, tt_lmul, tt_i2l, tt_lcmp, tt_dupr, tt_dup2, tt_eq0, tt_lt0, tt_le0, tt_ge0, tt_gt0, tt_eq2, tt_lt2, tt_ge2, tt_gt2, tt_le2, tt_gr, tt_gi, tt_pi, tt_gl, tt_pl, tt_ia, tt_st, tt_ir, tt_zr, tt_lr, tt_vr, tt_cv, tt_cs, tt_max, tt_min, tt_rem, tt_xor, tt_len, tt_cp, tt_thr, tt_xv, tt_xs, k_sv, k_cl, k_kz, List.getElem?_cons_zero, List.getElem?_cons_succ, List.drop_succ_cons, List.drop_zero, List.take_succ_cons, List.take_zero, List.reverse_cons, List.reverse_nil, List.nil_append, List.cons_append, List.length_cons, List.length_nil, Option.toList_some, Option.toList_none, Nat.reduceAdd, Nat.reduceLeDiff, true_and, and_true, sp_I, sp_II, sp_III, sp_JI, sp_JJ, sp_R2, sp_R5I, sp_V, hF]
  · next E M1 hF =>
    have hE : sp_I f_count [.int x0] M = some (.inr (E, M1)) := hF
    have hE := fe_count _ _ _ hE
    simp only [T_L_count, tt_xc, tt_c, tt_lc, tt_il, tt_ll, tt_al, tt_is, tt_lsv, tt_as, tt_inc, tt_add, tt_sub, tt_mul, tt_and, tt_ladd, tt_lmul, tt_i2l, tt_lcmp, tt_dupr, tt_dup2, tt_eq0, tt_lt0, tt_le0, tt_ge0, tt_gt0, tt_eq2, tt_lt2, tt_ge2, tt_gt2, tt_le2, tt_gr, tt_gi, tt_pi, tt_gl, tt_pl, tt_ia, tt_st, tt_ir, tt_zr, tt_lr, tt_vr, tt_cv, tt_cs, tt_max, tt_min, tt_rem, tt_xor, tt_len, tt_cp, tt_thr, tt_xv, tt_xs, k_sv, k_cl, k_kz, List.getElem?_cons_zero, List.getElem?_cons_succ, List.drop_succ_cons, List.drop_zero, List.take_succ_cons, List.take_zero, List.reverse_cons, List.reverse_nil, List.nil_append, List.cons_append, List.length_cons, List.length_nil, Option.toList_some, Option.toList_none, Nat.reduceAdd, Nat.reduceLeDiff, true_and, and_true, sp_I, sp_II, sp_III, sp_JI, sp_JJ, sp_R2, sp_R5I, sp_V, hF]
    intro q
    dsimp only at hE
    subst hE
    · rw [wE, if_pos rfl] at h
      cases h
      rw [tt_th, if_pos rfl]
      simp only [tt_c, tt_lc, tt_il, tt_ll, tt_al, tt_is, tt_lsv, tt_as, tt_inc, tt_add, tt_sub, tt_mul, tt_and, tt_ladd, tt_lmul, tt_i2l, tt_lcmp, tt_dupr, tt_dup2, tt_eq0, tt_lt0, tt_le0, tt_ge0, tt_gt0, tt_eq2, tt_lt2, tt_ge2, tt_gt2, tt_le2, tt_gr, tt_gi, tt_pi, tt_gl, tt_pl, tt_ia, tt_st, tt_ir, tt_zr, tt_lr, tt_vr, tt_cv, tt_cs, tt_max, tt_min, tt_rem, tt_xor, tt_len, tt_cp, tt_thr, tt_xv, tt_xs, k_sv, k_cl, k_kz, List.getElem?_cons_zero, List.getElem?_cons_succ, List.drop_succ_cons, List.drop_zero, List.take_succ_cons, List.take_zero, List.reverse_cons, List.reverse_nil, List.nil_append, List.cons_append, List.length_cons, List.length_nil, Option.toList_some, Option.toList_none, Nat.reduceAdd, Nat.reduceLeDiff, true_and, and_true, sp_I, sp_II, sp_III, sp_JI, sp_JJ, sp_R2, sp_R5I, sp_V]
  · cases h
theorem pn_count (ad : Nat → Nat) (x0 : Int32) (M : Mm) (r : Rs) (h : wN (f_count x0 M) = some r) : TN_L_count ad r (sp_I f_count) [some (.ref (ad 0)), some (.int x0), none] [] M := by
  unfold wN at h
  split at h
  · next v M1 hF =>
    cases h
    simp only [TN_L_count, tt_c, tt_lc, tt_il, tt_ll, tt_al, tt_is, tt_lsv, tt_as, tt_inc, tt_add, tt_sub, tt_mul, tt_and, tt_ladd, tt_lmul, tt_i2l, tt_lcmp, tt_dupr, tt_dup2, tt_eq0, tt_lt0, tt_le0, tt_ge0, tt_gt0, tt_eq2, tt_lt2, tt_ge2, tt_gt2, tt_le2, tt_gr, tt_gi, tt_pi, tt_gl, tt_pl, tt_ia, tt_st, tt_ir, tt_zr, tt_lr, tt_vr, tt_cv, tt_cs, tt_max, tt_min, tt_rem, tt_xor, tt_len, tt_cp, tt_thr, tt_xv, tt_xs, k_sv, k_cl, k_kz, List.getElem?_cons_zero, List.getElem?_cons_succ, List.drop_succ_cons, List.drop_zero, List.take_succ_cons, List.take_zero, List.reverse_cons, List.reverse_nil, List.nil_append, List.cons_append, List.length_cons, List.length_nil, Option.toList_some, Option.toList_none, Nat.reduceAdd, Nat.reduceLeDiff, true_and, and_true, sp_I, sp_II, sp_III, sp_JI, sp_JJ, sp_R2, sp_R5I, sp_V, hF]
  · cases h
def sw_count (ad : Nat → Nat) : Sp := fun As M => match As with
  | [.ref a0, .int x0] => if a0 = ad 0 then wX [(k_IAE, (-901))] (f_count x0 M) else none
  | _ => none
def sn_count (ad : Nat → Nat) : Sp := fun As M => match As with
  | [.ref a0, .int x0] => if a0 = ad 0 then wN (f_count x0 M) else none
  | _ => none
theorem wr_count {l : Launch} {ad : Nat → Nat} {D : va_G} {cI cL : ClassId} (hI : k_I ad) (hf : l.stackTraces = false) : k_Wr l ad D cI cL yL_count cL_count 3 hh_count 8 133 (sw_count ad) :=
  k_wr (tree := fun r => T_L_count ad r (sp_I f_count)) hI (by decide +kernel) (fun X res hl hD C E T => S_L_count C E T (k_cvOf hl hD (cc_X3_count hI hf).1) (k_ctOf hl hD (cc_X3_count hI hf).2)) (fun As M r hF => by
    unfold sw_count at hF
    split at hF
    · split at hF
      · next hc =>
        obtain rfl := hc
        exact ⟨Nat.le_of_ble_eq_true rfl, _, k_inL rfl, pw_count ad _ M _ hF⟩
      · cases hF
    · cases hF)
theorem wn_count {l : Launch} {ad : Nat → Nat} {D : va_G} {cI cL : ClassId} (hI : k_I ad) (hf : l.stackTraces = false) : k_WrN l ad D cI cL yL_count cL_count 3 hh_count 8 133 (sn_count ad) :=
  k_wrN (tree := fun r => TN_L_count ad r (sp_I f_count)) hI (by decide +kernel) (fun X res hl hD C E => SN_L_count C E (k_cvOf hl hD (cc_X3_count hI hf).1)) (fun As M r hF => by
    unfold sn_count at hF
    split at hF
    · split at hF
      · next hc =>
        obtain rfl := hc
        exact ⟨Nat.le_of_ble_eq_true rfl, _, k_inL rfl, pn_count ad _ M _ hF⟩
      · cases hF
    · cases hF)
abbrev hh_undo : List (Nat × Nat × Nat × Nat) := [(0, 4, 5, 19)]
theorem fe_undo (As : List Value) (M : Mm) (e : String × Mm) (h : sp_V f_undo As M = some (.inr e)) : e.1 = k_ISE := by
  unfold sp_V at h
  split at h
  · simp only [f_undo, q_ms] at h
    (repeat' split at h) <;> first | (cases h; done) | (cases h; simp)
  · cases h
def T_L_undo (ad : Nat → Nat) (res : Rs) (F : Sp) : Tr := (tt_al 0 (tt_xc ad 0 0 F (tt_ir res) (tt_th [(k_ISE, (tt_as 1 (tt_c (-902) (tt_ir res))))])))
def TN_L_undo (ad : Nat → Nat) (res : Rs) (F : Sp) : Tr := (tt_al 0 (tt_cv ad 0 0 F (tt_ir res)))
theorem S_L_undo {ad : Nat → Nat} {X : Cx} {res : Rs} (C : k_C ad X cL_undo RL 2 7 110) (E : k_E ad (k_bump X) (some .int) res) (T : k_TW X hh_undo) (h : kv_X3_undo ad X (sp_V f_undo)) (hx : kt_X3_undo ad X (sp_V f_undo)) : Sd ad X 0 (T_L_undo ad res (sp_V f_undo)) := by
  have Cb := k_Cb C T
  unfold T_L_undo
  exact (ss_al0 C dL_undo_0 rfl (ss_xc (hh := hh_undo) k_rc0 C T dL_undo_1 kc_RL_79 rfl h hx rfl (fun As M e h => by
    have hE := fe_undo As M e h
    skip
    · rw [hE]
      exact ⟨[], ⟨0, 4, 5, 19⟩, [], rfl, (fun z hz => absurd hz List.not_mem_nil), by decide, by decide, (k_gm 395 (by decide +kernel) (by decide +kernel)), by decide, by rw [tt_th, if_pos rfl]; exact (ss_as0 Cb dL_undo_5 rfl (by decide) (ss_sp Cb dL_undo_6 (by decide) (ss_ir Cb E dL_undo_9)))⟩
    ) (ss_ir Cb E dL_undo_4)))
theorem SN_L_undo {ad : Nat → Nat} {X : Cx} {res : Rs} (C : k_C ad X cL_undo RL 2 7 110) (E : k_E ad X (some .int) res) (h : kv_X3_undo ad X (sp_V f_undo)) : Sd ad X 0 (TN_L_undo ad res (sp_V f_undo)) := by
  unfold TN_L_undo
  exact (ss_al0 C dL_undo_0 rfl (ss_cv k_rc0 C dL_undo_1 kc_RL_79 rfl h rfl (ss_ir C E dL_undo_4)))
theorem pw_undo (ad : Nat → Nat) (M : Mm) (r : Rs) (h : wX [(k_ISE, (-902))] (f_undo M) = some r) : T_L_undo ad r (sp_V f_undo) [some (.ref (ad 0)), none] [] M := by
  unfold wX at h
  split at h
  · next v M1 hF =>
    cases h
    simp only [T_L_undo, tt_xc, tt_c, tt_lc, tt_il, tt_ll, tt_al, tt_is, tt_lsv, tt_as, tt_inc, tt_add, tt_sub, tt_mul, tt_and, tt_ladd, tt_lmul, tt_i2l, tt_lcmp, tt_dupr, tt_dup2, tt_eq0, tt_lt0, tt_le0, tt_ge0, tt_gt0, tt_eq2, tt_lt2, tt_ge2, tt_gt2, tt_le2, tt_gr, tt_gi, tt_pi, tt_gl, tt_pl, tt_ia, tt_st, tt_ir, tt_zr, tt_lr, tt_vr, tt_cv, tt_cs, tt_max, tt_min, tt_rem, tt_xor, tt_len, tt_cp, tt_thr, tt_xv, tt_xs, k_sv, k_cl, k_kz, List.getElem?_cons_zero, List.getElem?_cons_succ, List.drop_succ_cons, List.drop_zero, List.take_succ_cons, List.take_zero, List.reverse_cons, List.reverse_nil, List.nil_append, List.cons_append, List.length_cons, List.length_nil, Option.toList_some, Option.toList_none, Nat.reduceAdd, Nat.reduceLeDiff, true_and, and_true, sp_I, sp_II, sp_III, sp_JI, sp_JJ, sp_R2, sp_R5I, sp_V, hF]
  · next E M1 hF =>
    have hE : sp_V f_undo [] M = some (.inr (E, M1)) := hF
    have hE := fe_undo _ _ _ hE
    simp only [T_L_undo, tt_xc, tt_c, tt_lc, tt_il, tt_ll, tt_al, tt_is, tt_lsv, tt_as, tt_inc, tt_add, tt_sub, tt_mul, tt_and, tt_ladd, tt_lmul, tt_i2l, tt_lcmp, tt_dupr, tt_dup2, tt_eq0, tt_lt0, tt_le0, tt_ge0, tt_gt0, tt_eq2, tt_lt2, tt_ge2, tt_gt2, tt_le2, tt_gr, tt_gi, tt_pi, tt_gl, tt_pl, tt_ia, tt_st, tt_ir, tt_zr, tt_lr, tt_vr, tt_cv, tt_cs, tt_max, tt_min, tt_rem, tt_xor, tt_len, tt_cp, tt_thr, tt_xv, tt_xs, k_sv, k_cl, k_kz, List.getElem?_cons_zero, List.getElem?_cons_succ, List.drop_succ_cons, List.drop_zero, List.take_succ_cons, List.take_zero, List.reverse_cons, List.reverse_nil, List.nil_append, List.cons_append, List.length_cons, List.length_nil, Option.toList_some, Option.toList_none, Nat.reduceAdd, Nat.reduceLeDiff, true_and, and_true, sp_I, sp_II, sp_III, sp_JI, sp_JJ, sp_R2, sp_R5I, sp_V, hF]
    intro q
    dsimp only at hE
    subst hE
    · rw [wE, if_pos rfl] at h
      cases h
      rw [tt_th, if_pos rfl]
      simp only [tt_c, tt_lc, tt_il, tt_ll, tt_al, tt_is, tt_lsv, tt_as, tt_inc, tt_add, tt_sub, tt_mul, tt_and, tt_ladd, tt_lmul, tt_i2l, tt_lcmp, tt_dupr, tt_dup2, tt_eq0, tt_lt0, tt_le0, tt_ge0, tt_gt0, tt_eq2, tt_lt2, tt_ge2, tt_gt2, tt_le2, tt_gr, tt_gi, tt_pi, tt_gl, tt_pl, tt_ia, tt_st, tt_ir, tt_zr, tt_lr, tt_vr, tt_cv, tt_cs, tt_max, tt_min, tt_rem, tt_xor, tt_len, tt_cp, tt_thr, tt_xv, tt_xs, k_sv, k_cl, k_kz, List.getElem?_cons_zero, List.getElem?_cons_succ, List.drop_succ_cons, List.drop_zero, List.take_succ_cons, List.take_zero, List.reverse_cons, List.reverse_nil, List.nil_append, List.cons_append, List.length_cons, List.length_nil, Option.toList_some, Option.toList_none, Nat.reduceAdd, Nat.reduceLeDiff, true_and, and_true, sp_I, sp_II, sp_III, sp_JI, sp_JJ, sp_R2, sp_R5I, sp_V]
  · cases h
theorem pn_undo (ad : Nat → Nat) (M : Mm) (r : Rs) (h : wN (f_undo M) = some r) : TN_L_undo ad r (sp_V f_undo) [some (.ref (ad 0)), none] [] M := by
  unfold wN at h
  split at h
  · next v M1 hF =>
    cases h
    simp only [TN_L_undo, tt_c, tt_lc, tt_il, tt_ll, tt_al, tt_is, tt_lsv, tt_as, tt_inc, tt_add, tt_sub, tt_mul, tt_and, tt_ladd, tt_lmul, tt_i2l, tt_lcmp, tt_dupr, tt_dup2, tt_eq0, tt_lt0, tt_le0, tt_ge0, tt_gt0, tt_eq2, tt_lt2, tt_ge2, tt_gt2, tt_le2, tt_gr, tt_gi, tt_pi, tt_gl, tt_pl, tt_ia, tt_st, tt_ir, tt_zr, tt_lr, tt_vr, tt_cv, tt_cs, tt_max, tt_min, tt_rem, tt_xor, tt_len, tt_cp, tt_thr, tt_xv, tt_xs, k_sv, k_cl, k_kz, List.getElem?_cons_zero, List.getElem?_cons_succ, List.drop_succ_cons, List.drop_zero, List.take_succ_cons, List.take_zero, List.reverse_cons, List.reverse_nil, List.nil_append, List.cons_append, List.length_cons, List.length_nil, Option.toList_some, Option.toList_none, Nat.reduceAdd, Nat.reduceLeDiff, true_and, and_true, sp_I, sp_II, sp_III, sp_JI, sp_JJ, sp_R2, sp_R5I, sp_V, hF]
  · cases h
def sw_undo (ad : Nat → Nat) : Sp := fun As M => match As with
  | [.ref a0] => if a0 = ad 0 then wX [(k_ISE, (-902))] (f_undo M) else none
  | _ => none
def sn_undo (ad : Nat → Nat) : Sp := fun As M => match As with
  | [.ref a0] => if a0 = ad 0 then wN (f_undo M) else none
  | _ => none
theorem wr_undo {l : Launch} {ad : Nat → Nat} {D : va_G} {cI cL : ClassId} (hI : k_I ad) (hf : l.stackTraces = false) : k_Wr l ad D cI cL yL_undo cL_undo 2 hh_undo 7 110 (sw_undo ad) :=
  k_wr (tree := fun r => T_L_undo ad r (sp_V f_undo)) hI (by decide +kernel) (fun X res hl hD C E T => S_L_undo C E T (k_cvOf hl hD (cc_X3_undo hI hf).1) (k_ctOf hl hD (cc_X3_undo hI hf).2)) (fun As M r hF => by
    unfold sw_undo at hF
    split at hF
    · split at hF
      · next hc =>
        obtain rfl := hc
        exact ⟨Nat.le_of_ble_eq_true rfl, _, k_inL rfl, pw_undo ad M _ hF⟩
      · cases hF
    · cases hF)
theorem wn_undo {l : Launch} {ad : Nat → Nat} {D : va_G} {cI cL : ClassId} (hI : k_I ad) (hf : l.stackTraces = false) : k_WrN l ad D cI cL yL_undo cL_undo 2 hh_undo 7 110 (sn_undo ad) :=
  k_wrN (tree := fun r => TN_L_undo ad r (sp_V f_undo)) hI (by decide +kernel) (fun X res hl hD C E => SN_L_undo C E (k_cvOf hl hD (cc_X3_undo hI hf).1)) (fun As M r hF => by
    unfold sn_undo at hF
    split at hF
    · split at hF
      · next hc =>
        obtain rfl := hc
        exact ⟨Nat.le_of_ble_eq_true rfl, _, k_inL rfl, pn_undo ad M _ hF⟩
      · cases hF
    · cases hF)
