/-! THE LAW: a turn whole, before the loop, the end -/
section BO
variable {ad : Nat → Nat} {M : Mm} {k : Tr} {b n F T m : Nat} {g4 g5 g6 g7 g8 g9 g10 g11 g12 : Option Value} {x y : Int32}
theorem low_at (x : Int32) {q : Int32} {n : Nat} (hq : q = nI n) (h0 : 0 < n) (h : n < 2 ^ 31) : ∃ j, j < n ∧ lowF x q = nI j := by
  subst hq
  exact low_n x h0 h
/-- the state of a turn before its change -/
abbrev l0 (ad : Nat → Nat) (b F n : Nat) (M : Mm) (g4 : Option Value) (y : Int32) (m : Nat) (g7 g11 g12 : Option Value) : Ls := lL ad b (nI F) (nI n) g4 (oI y) (oI (nI m)) g7 (some (.long (diC (M.1 4 0) (M.1 0)))) none (oI 0) g11 g12
theorem b_join (hn : n < 28) (hm : m < 24) (h : LI F T M) (hT : T ≤ 12 * n) (hk : HK ad b n k) : T_law_join ad k (l0 ad b F n M g4 y m g7 g11 g12) [] M := by
  obtain ⟨j1, a1, a2⟩ := low_at y (q := 6) (n := 6) rfl (by omega) (by omega)
  obtain ⟨j2, b1, b2⟩ := low_at (y >>> ((4 : Int32) &&& 31)) (q := 4) (n := 4) rfl (by omega) (by omega)
  have e1 : sl_low [.int y, .int 6] M = some (.inl (some (.int (lowF y 6)), M)) := e_low (by decide)
  have e2 : sl_low [.int (y >>> ((4 : Int32) &&& 31)), .int 4] M = some (.inl (some (.int (lowF (y >>> ((4 : Int32) &&& 31)) 4)), M)) := e_low (by decide)
  rw [a2] at e1
  rw [b2] at e2
  obtain ⟨told, M', t1, t2, t3⟩ := o_join (ad := ad) (bb := j1) (pp := j2) h hm (by omega) (by omega)
  have g := b_377 (ad := ad) (g4 := g4) (y := y) (m := m) (g7 := g7) (g11 := g11) (g12 := g12) hn (by omega) t2 (by omega) t3 hk
  simp only [T_law_join, tt_shr, e1, e2, t1, tt_c, tt_lc, tt_il, tt_ll, tt_al, tt_is, tt_lsv, tt_as, tt_inc, tt_add, tt_sub, tt_mul, tt_and, tt_ladd, tt_lmul, tt_i2l, tt_lcmp, tt_dupr, tt_dup2, tt_eq0, tt_lt0, tt_le0, tt_ge0, tt_gt0, tt_eq2, tt_lt2, tt_ge2, tt_gt2, tt_le2, tt_gr, tt_gi, tt_pi, tt_gl, tt_pl, tt_ia, tt_st, tt_ir, tt_zr, tt_lr, tt_vr, tt_cv, tt_cs, tt_max, tt_min, tt_rem, tt_xor, tt_len, tt_cp, tt_thr, tt_xv, tt_xs, k_sv, k_cl, k_kz, List.getElem?_cons_zero, List.getElem?_cons_succ, List.drop_succ_cons, List.drop_zero, List.take_succ_cons, List.take_zero, List.reverse_cons, List.reverse_nil, List.nil_append, List.cons_append, List.length_cons, List.length_nil, Option.toList_some, Option.toList_none, Nat.reduceAdd, Nat.reduceLeDiff, true_and, and_true, sp_I, sp_II, sp_III, sp_JI, sp_JJ, sp_R2, sp_R5I, sp_V]
  exact g
theorem b_leave (hn : n < 28) (hm : m < 24) (h : LI F T M) (hT : T ≤ 12 * n) (hk : HK ad b n k) : T_law_leave ad k (l0 ad b F n M g4 y m g7 g11 g12) [] M := by
  obtain ⟨told, M', t1, t2, t3⟩ := o_leave (ad := ad) h hm
  have g := b_377 (ad := ad) (g4 := g4) (y := y) (m := m) (g7 := g7) (g11 := g11) (g12 := g12) hn (by omega) t2 (by omega) t3 hk
  simp only [T_law_leave, t1, tt_c, tt_lc, tt_il, tt_ll, tt_al, tt_is, tt_lsv, tt_as, tt_inc, tt_add, tt_sub, tt_mul, tt_and, tt_ladd, tt_lmul, tt_i2l, tt_lcmp, tt_dupr, tt_dup2, tt_eq0, tt_lt0, tt_le0, tt_ge0, tt_gt0, tt_eq2, tt_lt2, tt_ge2, tt_gt2, tt_le2, tt_gr, tt_gi, tt_pi, tt_gl, tt_pl, tt_ia, tt_st, tt_ir, tt_zr, tt_lr, tt_vr, tt_cv, tt_cs, tt_max, tt_min, tt_rem, tt_xor, tt_len, tt_cp, tt_thr, tt_xv, tt_xs, k_sv, k_cl, k_kz, List.getElem?_cons_zero, List.getElem?_cons_succ, List.drop_succ_cons, List.drop_zero, List.take_succ_cons, List.take_zero, List.reverse_cons, List.reverse_nil, List.nil_append, List.cons_append, List.length_cons, List.length_nil, Option.toList_some, Option.toList_none, Nat.reduceAdd, Nat.reduceLeDiff, true_and, and_true, sp_I, sp_II, sp_III, sp_JI, sp_JJ, sp_R2, sp_R5I, sp_V]
  exact g
theorem b_fail (hn : n < 28) (hm : m < 24) (h : LI F T M) (hT : T ≤ 12 * n) (hk : HK ad b n k) : T_law_fail ad k (l0 ad b F n M g4 y m g7 g11 g12) [] M := by
  obtain ⟨told, M', t1, t2, t3⟩ := o_fail (ad := ad) h (by omega) hm
  have g := b_377 (ad := ad) (g4 := g4) (y := y) (m := m) (g7 := g7) (g11 := g11) (g12 := g12) hn (by omega) t2 (by omega) t3 hk
  simp only [T_law_fail, t1, tt_c, tt_lc, tt_il, tt_ll, tt_al, tt_is, tt_lsv, tt_as, tt_inc, tt_add, tt_sub, tt_mul, tt_and, tt_ladd, tt_lmul, tt_i2l, tt_lcmp, tt_dupr, tt_dup2, tt_eq0, tt_lt0, tt_le0, tt_ge0, tt_gt0, tt_eq2, tt_lt2, tt_ge2, tt_gt2, tt_le2, tt_gr, tt_gi, tt_pi, tt_gl, tt_pl, tt_ia, tt_st, tt_ir, tt_zr, tt_lr, tt_vr, tt_cv, tt_cs, tt_max, tt_min, tt_rem, tt_xor, tt_len, tt_cp, tt_thr, tt_xv, tt_xs, k_sv, k_cl, k_kz, List.getElem?_cons_zero, List.getElem?_cons_succ, List.drop_succ_cons, List.drop_zero, List.take_succ_cons, List.take_zero, List.reverse_cons, List.reverse_nil, List.nil_append, List.cons_append, List.length_cons, List.length_nil, Option.toList_some, Option.toList_none, Nat.reduceAdd, Nat.reduceLeDiff, true_and, and_true, sp_I, sp_II, sp_III, sp_JI, sp_JJ, sp_R2, sp_R5I, sp_V]
  exact g
theorem b_setBound (hn : n < 28) (hm : m < 24) (h : LI F T M) (hT : T ≤ 12 * n) (hk : HK ad b n k) : T_law_setBound ad k (l0 ad b F n M g4 y m g7 g11 g12) [] M := by
  obtain ⟨j1, a1, a2⟩ := low_at y (q := 9) (n := 9) rfl (by omega) (by omega)
  have e1 : sl_low [.int y, .int 9] M = some (.inl (some (.int (lowF y 9)), M)) := e_low (by decide)
  rw [a2] at e1
  obtain ⟨told, M', t1, t2, t3⟩ := o_setBound (ad := ad) (bb := j1) h hm (by omega)
  have g := b_377 (ad := ad) (g4 := g4) (y := y) (m := m) (g7 := g7) (g11 := g11) (g12 := g12) hn (by omega) t2 (by omega) t3 hk
  simp only [T_law_setBound, e1, t1, tt_c, tt_lc, tt_il, tt_ll, tt_al, tt_is, tt_lsv, tt_as, tt_inc, tt_add, tt_sub, tt_mul, tt_and, tt_ladd, tt_lmul, tt_i2l, tt_lcmp, tt_dupr, tt_dup2, tt_eq0, tt_lt0, tt_le0, tt_ge0, tt_gt0, tt_eq2, tt_lt2, tt_ge2, tt_gt2, tt_le2, tt_gr, tt_gi, tt_pi, tt_gl, tt_pl, tt_ia, tt_st, tt_ir, tt_zr, tt_lr, tt_vr, tt_cv, tt_cs, tt_max, tt_min, tt_rem, tt_xor, tt_len, tt_cp, tt_thr, tt_xv, tt_xs, k_sv, k_cl, k_kz, List.getElem?_cons_zero, List.getElem?_cons_succ, List.drop_succ_cons, List.drop_zero, List.take_succ_cons, List.take_zero, List.reverse_cons, List.reverse_nil, List.nil_append, List.cons_append, List.length_cons, List.length_nil, Option.toList_some, Option.toList_none, Nat.reduceAdd, Nat.reduceLeDiff, true_and, and_true, sp_I, sp_II, sp_III, sp_JI, sp_JJ, sp_R2, sp_R5I, sp_V]
  exact g
theorem b_setSource (hn : n < 28) (hm : m < 24) (h : LI F T M) (hT : T ≤ 12 * n) (hk : HK ad b n k) : T_law_setSource ad k (l0 ad b F n M g4 y m g7 g11 g12) [] M := by
  obtain ⟨j1, a1, a2⟩ := low_at y (q := 5) (n := 5) rfl (by omega) (by omega)
  have e1 : sl_low [.int y, .int 5] M = some (.inl (some (.int (lowF y 5)), M)) := e_low (by decide)
  rw [a2] at e1
  have e2 : (1 : Int32) + nI j1 = nI (1 + j1) := nI_add 1 j1
  obtain ⟨M', t1, t2⟩ := o_setSource (ad := ad) (F' := 1 + j1) h (by omega) (by omega)
  have g := b_377 (ad := ad) (g4 := g4) (y := y) (m := m) (g7 := g7) (g11 := oI (nI F)) (g12 := g12) (told := 0) (d := diC (M.1 4 0) (M.1 0)) hn (by omega) t2 (by omega) (Or.inl (by decide)) hk
  simp only [T_law_setSource, tt_no, e1, e2, t1, tt_c, tt_lc, tt_il, tt_ll, tt_al, tt_is, tt_lsv, tt_as, tt_inc, tt_add, tt_sub, tt_mul, tt_and, tt_ladd, tt_lmul, tt_i2l, tt_lcmp, tt_dupr, tt_dup2, tt_eq0, tt_lt0, tt_le0, tt_ge0, tt_gt0, tt_eq2, tt_lt2, tt_ge2, tt_gt2, tt_le2, tt_gr, tt_gi, tt_pi, tt_gl, tt_pl, tt_ia, tt_st, tt_ir, tt_zr, tt_lr, tt_vr, tt_cv, tt_cs, tt_max, tt_min, tt_rem, tt_xor, tt_len, tt_cp, tt_thr, tt_xv, tt_xs, k_sv, k_cl, k_kz, List.getElem?_cons_zero, List.getElem?_cons_succ, List.drop_succ_cons, List.drop_zero, List.take_succ_cons, List.take_zero, List.reverse_cons, List.reverse_nil, List.nil_append, List.cons_append, List.length_cons, List.length_nil, Option.toList_some, Option.toList_none, Nat.reduceAdd, Nat.reduceLeDiff, true_and, and_true, sp_I, sp_II, sp_III, sp_JI, sp_JJ, sp_R2, sp_R5I, sp_V]
  exact ⟨fun _ => g, fun q => q trivial⟩
theorem b_rejoin (hn : n < 28) (hm : m < 24) (h : LI F T M) (hT : T ≤ 12 * n) (hk : HK ad b n k) : T_law_rejoin ad k (l0 ad b F n M g4 y m g7 g11 g12) [] M := by
  obtain ⟨j1, a1, a2⟩ := low_at y (q := 4) (n := 4) rfl (by omega) (by omega)
  have e1 : sl_low [.int y, .int 4] M = some (.inl (some (.int (lowF y 4)), M)) := e_low (by decide)
  rw [a2] at e1
  obtain ⟨told, M', t1, t2, t3⟩ := o_rejoin (ad := ad) (s := j1) h hm a1
  have hS := bS_n a1
  rcases t3 with ⟨q1, q2, q3⟩ | ⟨q1, q2⟩
  · subst q1
    have g := b_377 (ad := ad) (g4 := g4) (y := y) (m := m) (g7 := g7) (g11 := oI (nI j1)) (g12 := g12) (told := 0) (d := diC (M.1 4 0) (M.1 0)) hn (by omega) t2 (by omega) (Or.inl (by decide)) hk
    have s1 := e_stripe (ad := ad) (M := M') (w := 4) hS (by decide)
    have r1 := e_hasRoom100 (ad := ad) (M := M') hS
    rw [si_4, q2] at s1
    rw [q3] at r1
    simp only [T_law_rejoin, e1, t1, s1, r1, bI_f, tt_c, tt_lc, tt_il, tt_ll, tt_al, tt_is, tt_lsv, tt_as, tt_inc, tt_add, tt_sub, tt_mul, tt_and, tt_ladd, tt_lmul, tt_i2l, tt_lcmp, tt_dupr, tt_dup2, tt_eq0, tt_lt0, tt_le0, tt_ge0, tt_gt0, tt_eq2, tt_lt2, tt_ge2, tt_gt2, tt_le2, tt_gr, tt_gi, tt_pi, tt_gl, tt_pl, tt_ia, tt_st, tt_ir, tt_zr, tt_lr, tt_vr, tt_cv, tt_cs, tt_max, tt_min, tt_rem, tt_xor, tt_len, tt_cp, tt_thr, tt_xv, tt_xs, k_sv, k_cl, k_kz, List.getElem?_cons_zero, List.getElem?_cons_succ, List.drop_succ_cons, List.drop_zero, List.take_succ_cons, List.take_zero, List.reverse_cons, List.reverse_nil, List.nil_append, List.cons_append, List.length_cons, List.length_nil, Option.toList_some, Option.toList_none, Nat.reduceAdd, Nat.reduceLeDiff, true_and, and_true, sp_I, sp_II, sp_III, sp_JI, sp_JJ, sp_R2, sp_R5I, sp_V]
    exact ⟨fun _ => ⟨fun _ => g, fun z => absurd (by decide) z⟩, fun z => absurd trivial z⟩
  · have g := b_377 (ad := ad) (g4 := g4) (y := y) (m := m) (g7 := g7) (g11 := oI (nI j1)) (g12 := g12) hn (by omega) t2 (by omega) q2 hk
    simp only [T_law_rejoin, e1, t1, tt_c, tt_lc, tt_il, tt_ll, tt_al, tt_is, tt_lsv, tt_as, tt_inc, tt_add, tt_sub, tt_mul, tt_and, tt_ladd, tt_lmul, tt_i2l, tt_lcmp, tt_dupr, tt_dup2, tt_eq0, tt_lt0, tt_le0, tt_ge0, tt_gt0, tt_eq2, tt_lt2, tt_ge2, tt_gt2, tt_le2, tt_gr, tt_gi, tt_pi, tt_gl, tt_pl, tt_ia, tt_st, tt_ir, tt_zr, tt_lr, tt_vr, tt_cv, tt_cs, tt_max, tt_min, tt_rem, tt_xor, tt_len, tt_cp, tt_thr, tt_xv, tt_xs, k_sv, k_cl, k_kz, List.getElem?_cons_zero, List.getElem?_cons_succ, List.drop_succ_cons, List.drop_zero, List.take_succ_cons, List.take_zero, List.reverse_cons, List.reverse_nil, List.nil_append, List.cons_append, List.length_cons, List.length_nil, Option.toList_some, Option.toList_none, Nat.reduceAdd, Nat.reduceLeDiff, true_and, and_true, sp_I, sp_II, sp_III, sp_JI, sp_JJ, sp_R2, sp_R5I, sp_V]
    exact ⟨fun z => absurd z q1, fun _ => g⟩
theorem b_repair (hn : n < 28) (hm : m < 24) (h : LI F T M) (hT : T ≤ 12 * n) (hk : HK ad b n k) : T_law_repair ad k (l0 ad b F n M g4 y m g7 g11 g12) [] M := by
  obtain ⟨M', t1, t2⟩ := o_repair h
  have g := b_377 (ad := ad) (g4 := g4) (y := y) (m := m) (g7 := g7) (g11 := g11) (g12 := g12) (told := 0) (d := diC (M.1 4 0) (M.1 0)) hn (by omega) t2 (by omega) (Or.inl (by decide)) hk
  have s0 := e_stripe (ad := ad) (M := M') (s := 0) (w := 1) (by decide) (by decide)
  have s1 := e_stripe (ad := ad) (M := M') (s := 1) (w := 1) (by decide) (by decide)
  have s2 := e_stripe (ad := ad) (M := M') (s := 2) (w := 1) (by decide) (by decide)
  have s3 := e_stripe (ad := ad) (M := M') (s := 3) (w := 1) (by decide) (by decide)
  rw [si_1] at s0 s1 s2 s3
  have hr : reC (M'.1 0) = oC (M'.1 0) 0 + oC (M'.1 0) 1 + oC (M'.1 0) 2 + oC (M'.1 0) 3 := by
    unfold reC
    simp only [sumTo]
    rw [Int32.zero_add]
    rfl
  have t1' : f_repair M = some (.inl (some (.int (reC (M'.1 0))), M')) := t1
  simp only [T_law_repair, t1', s0, s1, s2, s3, tt_c, tt_lc, tt_il, tt_ll, tt_al, tt_is, tt_lsv, tt_as, tt_inc, tt_add, tt_sub, tt_mul, tt_and, tt_ladd, tt_lmul, tt_i2l, tt_lcmp, tt_dupr, tt_dup2, tt_eq0, tt_lt0, tt_le0, tt_ge0, tt_gt0, tt_eq2, tt_lt2, tt_ge2, tt_gt2, tt_le2, tt_gr, tt_gi, tt_pi, tt_gl, tt_pl, tt_ia, tt_st, tt_ir, tt_zr, tt_lr, tt_vr, tt_cv, tt_cs, tt_max, tt_min, tt_rem, tt_xor, tt_len, tt_cp, tt_thr, tt_xv, tt_xs, k_sv, k_cl, k_kz, List.getElem?_cons_zero, List.getElem?_cons_succ, List.drop_succ_cons, List.drop_zero, List.take_succ_cons, List.take_zero, List.reverse_cons, List.reverse_nil, List.nil_append, List.cons_append, List.length_cons, List.length_nil, Option.toList_some, Option.toList_none, Nat.reduceAdd, Nat.reduceLeDiff, true_and, and_true, sp_I, sp_II, sp_III, sp_JI, sp_JJ, sp_R2, sp_R5I, sp_V]
  exact ⟨fun _ => g, fun z => absurd hr z⟩
theorem b_setDelay (hn : n < 28) (hm : m < 24) (h : LI F T M) (hT : T ≤ 12 * n) (hk : HK ad b n k) : T_law_setDelay ad k (l0 ad b F n M g4 y m g7 g11 g12) [] M := by
  obtain ⟨j1, a1, a2⟩ := low_at y (q := 8) (n := 8) rfl (by omega) (by omega)
  have e1 : sl_low [.int y, .int 8] M = some (.inl (some (.int (lowF y 8)), M)) := e_low (by decide)
  rw [a2] at e1
  have e2 : (1 : Int32) + nI j1 = nI (1 + j1) := nI_add 1 j1
  obtain ⟨told, M', t1, t2, t3⟩ := o_setDelay (ad := ad) (d := 1 + j1) h (by omega) (by omega)
  have g := b_377 (ad := ad) (g4 := g4) (y := y) (m := m) (g7 := g7) (g11 := g11) (g12 := g12) (d := diC (M.1 4 0) (M.1 0)) hn (by omega) t2 (by omega) (Or.inl t3) hk
  simp only [T_law_setDelay, e1, e2, t1, tt_c, tt_lc, tt_il, tt_ll, tt_al, tt_is, tt_lsv, tt_as, tt_inc, tt_add, tt_sub, tt_mul, tt_and, tt_ladd, tt_lmul, tt_i2l, tt_lcmp, tt_dupr, tt_dup2, tt_eq0, tt_lt0, tt_le0, tt_ge0, tt_gt0, tt_eq2, tt_lt2, tt_ge2, tt_gt2, tt_le2, tt_gr, tt_gi, tt_pi, tt_gl, tt_pl, tt_ia, tt_st, tt_ir, tt_zr, tt_lr, tt_vr, tt_cv, tt_cs, tt_max, tt_min, tt_rem, tt_xor, tt_len, tt_cp, tt_thr, tt_xv, tt_xs, k_sv, k_cl, k_kz, List.getElem?_cons_zero, List.getElem?_cons_succ, List.drop_succ_cons, List.drop_zero, List.take_succ_cons, List.take_zero, List.reverse_cons, List.reverse_nil, List.nil_append, List.cons_append, List.length_cons, List.length_nil, Option.toList_some, Option.toList_none, Nat.reduceAdd, Nat.reduceLeDiff, true_and, and_true, sp_I, sp_II, sp_III, sp_JI, sp_JJ, sp_R2, sp_R5I, sp_V]
  exact g
theorem b_tick (hn : n < 28) (hm : m < 24) (h : LI F T M) (hT : T ≤ 12 * n) (hk : HK ad b n k) : T_law_tick ad k (l0 ad b F n M g4 y m g7 g11 g12) [] M := by
  obtain ⟨j1, a1, a2⟩ := low_at y (q := 12) (n := 12) rfl (by omega) (by omega)
  have e1 : sl_low [.int y, .int 12] M = some (.inl (some (.int (lowF y 12)), M)) := e_low (by decide)
  rw [a2] at e1
  have e2 : (1 : Int32) + nI j1 = nI (1 + j1) := nI_add 1 j1
  obtain ⟨told, M', t1, t2, t3⟩ := o_tick (ad := ad) (l := 1 + j1) h (by omega) (by omega)
  have g := b_377 (ad := ad) (g4 := g4) (y := y) (m := m) (g7 := g7) (g11 := g11) (g12 := g12) (d := diC (M.1 4 0) (M.1 0)) hn (by omega) t2 (by omega) (Or.inl t3) hk
  simp only [T_law_tick, e1, e2, t1, tt_c, tt_lc, tt_il, tt_ll, tt_al, tt_is, tt_lsv, tt_as, tt_inc, tt_add, tt_sub, tt_mul, tt_and, tt_ladd, tt_lmul, tt_i2l, tt_lcmp, tt_dupr, tt_dup2, tt_eq0, tt_lt0, tt_le0, tt_ge0, tt_gt0, tt_eq2, tt_lt2, tt_ge2, tt_gt2, tt_le2, tt_gr, tt_gi, tt_pi, tt_gl, tt_pl, tt_ia, tt_st, tt_ir, tt_zr, tt_lr, tt_vr, tt_cv, tt_cs, tt_max, tt_min, tt_rem, tt_xor, tt_len, tt_cp, tt_thr, tt_xv, tt_xs, k_sv, k_cl, k_kz, List.getElem?_cons_zero, List.getElem?_cons_succ, List.drop_succ_cons, List.drop_zero, List.take_succ_cons, List.take_zero, List.reverse_cons, List.reverse_nil, List.nil_append, List.cons_append, List.length_cons, List.length_nil, Option.toList_some, Option.toList_none, Nat.reduceAdd, Nat.reduceLeDiff, true_and, and_true, sp_I, sp_II, sp_III, sp_JI, sp_JJ, sp_R2, sp_R5I, sp_V]
  exact g
theorem e_cell {L : Nat} {xs : Nat → Int32} {i : Int32} (h : ¬ i < 0) : sl_cell b L xs [.ref b, .int i] M = some (.inl (some (.int (cellF L xs i)), M)) := if_pos ⟨rfl, h⟩
theorem b_body {L : Nat} {xs : Nat → Int32} (hn : n < 28) (h : LI F T M) (hT : T ≤ 12 * n) (hk : HK ad b n k) : T_law_body ad b L xs k (lL ad b (nI F) (nI n) g4 g5 g6 g7 g8 g9 g10 g11 g12) [] M := by
  have i1 : (2 : Int32) * nI n = nI (2 * n) := pk_mul 2 n
  have i2 : nI (2 * n) + 1 = nI (2 * n + 1) := nI_1 _
  have c1 := e_cell (M := M) (b := b) (L := L) (xs := xs) (nI_pos (n := 2 * n) (by omega))
  have c2 := e_cell (M := M) (b := b) (L := L) (xs := xs) (nI_pos (n := 2 * n + 1) (by omega))
  generalize cellF L xs (nI (2 * n)) = x at c1
  generalize cellF L xs (nI (2 * n + 1)) = y at c2
  obtain ⟨m, a1, a2⟩ := low_at x (q := 24) (n := 24) rfl (by omega) (by omega)
  obtain ⟨w, b1, b2⟩ := low_at (x >>> ((5 : Int32) &&& 31)) (q := 12) (n := 12) rfl (by omega) (by omega)
  have e1 : sl_low [.int x, .int 24] M = some (.inl (some (.int (lowF x 24)), M)) := e_low (by decide)
  have e2 : sl_low [.int (x >>> ((5 : Int32) &&& 31)), .int 12] M = some (.inl (some (.int (lowF (x >>> ((5 : Int32) &&& 31)) 12)), M)) := e_low (by decide)
  rw [a2] at e1
  rw [b2] at e2
  have gj := b_join (ad := ad) (b := b) (k := k) (g4 := oI x) (y := y) (g7 := oI (nI w)) (g11 := g11) (g12 := g12) hn a1 h hT hk
  have gl := b_leave (ad := ad) (b := b) (k := k) (g4 := oI x) (y := y) (g7 := oI (nI w)) (g11 := g11) (g12 := g12) hn a1 h hT hk
  have gf := b_fail (ad := ad) (b := b) (k := k) (g4 := oI x) (y := y) (g7 := oI (nI w)) (g11 := g11) (g12 := g12) hn a1 h hT hk
  have gb := b_setBound (ad := ad) (b := b) (k := k) (g4 := oI x) (y := y) (g7 := oI (nI w)) (g11 := g11) (g12 := g12) hn a1 h hT hk
  have gs := b_setSource (ad := ad) (b := b) (k := k) (g4 := oI x) (y := y) (g7 := oI (nI w)) (g11 := g11) (g12 := g12) hn a1 h hT hk
  have gr := b_rejoin (ad := ad) (b := b) (k := k) (g4 := oI x) (y := y) (g7 := oI (nI w)) (g11 := g11) (g12 := g12) hn a1 h hT hk
  have gp := b_repair (ad := ad) (b := b) (k := k) (g4 := oI x) (y := y) (g7 := oI (nI w)) (g11 := g11) (g12 := g12) hn a1 h hT hk
  have gd := b_setDelay (ad := ad) (b := b) (k := k) (g4 := oI x) (y := y) (g7 := oI (nI w)) (g11 := g11) (g12 := g12) hn a1 h hT hk
  have gt := b_tick (ad := ad) (b := b) (k := k) (g4 := oI x) (y := y) (g7 := oI (nI w)) (g11 := g11) (g12 := g12) hn a1 h hT hk
  simp only [T_law_body, tt_shr, f_digest, i1, i2, c1, c2, e1, e2, tt_c, tt_lc, tt_il, tt_ll, tt_al, tt_is, tt_lsv, tt_as, tt_inc, tt_add, tt_sub, tt_mul, tt_and, tt_ladd, tt_lmul, tt_i2l, tt_lcmp, tt_dupr, tt_dup2, tt_eq0, tt_lt0, tt_le0, tt_ge0, tt_gt0, tt_eq2, tt_lt2, tt_ge2, tt_gt2, tt_le2, tt_gr, tt_gi, tt_pi, tt_gl, tt_pl, tt_ia, tt_st, tt_ir, tt_zr, tt_lr, tt_vr, tt_cv, tt_cs, tt_max, tt_min, tt_rem, tt_xor, tt_len, tt_cp, tt_thr, tt_xv, tt_xs, k_sv, k_cl, k_kz, List.getElem?_cons_zero, List.getElem?_cons_succ, List.drop_succ_cons, List.drop_zero, List.take_succ_cons, List.take_zero, List.reverse_cons, List.reverse_nil, List.nil_append, List.cons_append, List.length_cons, List.length_nil, Option.toList_some, Option.toList_none, Nat.reduceAdd, Nat.reduceLeDiff, true_and, and_true, sp_I, sp_II, sp_III, sp_JI, sp_JJ, sp_R2, sp_R5I, sp_V]
  exact ⟨fun _ => gj, fun _ => ⟨fun _ => ⟨fun _ => gl, fun _ => ⟨fun _ => ⟨fun _ => gb, fun _ => ⟨fun _ => gs, fun _ => ⟨fun _ => gr, fun _ => ⟨fun _ => gp, fun _ => ⟨fun _ => gd, fun _ => gt⟩⟩⟩⟩⟩, fun _ => gf⟩⟩, fun _ => gj⟩⟩
theorem Rf_of (h : LI F T M) : Rf M := by
  obtain ⟨⟨⟨-, -, -, hi⟩, -, -⟩, -, -⟩ := h
  have h30 := hi 30 (by omega) (by omega)
  have h31 := hi 31 (by omega) (by omega)
  refine ⟨fun q => ?_, fun q => ?_⟩
  · rw [show (30 : Int32) = nI 30 from rfl, h30] at q
    exact absurd q (by decide)
  · rw [show (31 : Int32) = nI 31 from rfl, h31] at q
    exact absurd q (by decide)
theorem e_refuses (h : Rf M) : sl_refuses ad [.ref (ad 0)] M = some (.inl (some (.int 1), M)) := if_pos ⟨rfl, h⟩
theorem b_exit (h : LI F T M) : T_law_exit ad (lL ad b (nI F) (nI n) g4 g5 g6 g7 g8 g9 g10 g11 g12) [] M := by
  have e1 := e_refuses (ad := ad) (Rf_of h)
  simp only [T_law_exit, tt_e1, e1, tt_c, tt_lc, tt_il, tt_ll, tt_al, tt_is, tt_lsv, tt_as, tt_inc, tt_add, tt_sub, tt_mul, tt_and, tt_ladd, tt_lmul, tt_i2l, tt_lcmp, tt_dupr, tt_dup2, tt_eq0, tt_lt0, tt_le0, tt_ge0, tt_gt0, tt_eq2, tt_lt2, tt_ge2, tt_gt2, tt_le2, tt_gr, tt_gi, tt_pi, tt_gl, tt_pl, tt_ia, tt_st, tt_ir, tt_zr, tt_lr, tt_vr, tt_cv, tt_cs, tt_max, tt_min, tt_rem, tt_xor, tt_len, tt_cp, tt_thr, tt_xv, tt_xs, k_sv, k_cl, k_kz, List.getElem?_cons_zero, List.getElem?_cons_succ, List.drop_succ_cons, List.drop_zero, List.take_succ_cons, List.take_zero, List.reverse_cons, List.reverse_nil, List.nil_append, List.cons_append, List.length_cons, List.length_nil, Option.toList_some, Option.toList_none, Nat.reduceAdd, Nat.reduceLeDiff, true_and, and_true, sp_I, sp_II, sp_III, sp_JI, sp_JJ, sp_R2, sp_R5I, sp_V]
theorem b_pre (h : LI 2 0 M) (h0 : M.1 4 0 = 0) (hk : ∀ g4 g5 g6 g7 g8 g9 g10 g11 g12, k (lL ad b (nI 2) (nI 0) g4 g5 g6 g7 g8 g9 g10 g11 g12) [] M) : T_law_pre ad k [some (.ref b), some (.ref (ad 0)), some (.int 2), g10, g4, g5, g6, g7, g8, g9, g10, g11, g12] [] M := by
  have e1 := e_refuses (ad := ad) (Rf_of h)
  have e2 : sl_sound ad [.ref (ad 0), .int 2] M = some (.inl (some (.int 1), M)) := e_sound ⟨2, 0, h.1, by omega, by omega, rfl⟩
  have e3 : sw_undo ad [.ref (ad 0)] M = some (.inl (some (.int (-902)), M)) := (show _ = wX [(k_ISE, (-902))] (f_undo M) from if_pos rfl).trans (xw (by unfold f_undo; exact if_pos h0) w1_S)
  have g := hk g4 g5 g6 g7 g8 g9 g10 g11 g12
  simp only [T_law_pre, tt_no, e1, e2, e3, tt_c, tt_lc, tt_il, tt_ll, tt_al, tt_is, tt_lsv, tt_as, tt_inc, tt_add, tt_sub, tt_mul, tt_and, tt_ladd, tt_lmul, tt_i2l, tt_lcmp, tt_dupr, tt_dup2, tt_eq0, tt_lt0, tt_le0, tt_ge0, tt_gt0, tt_eq2, tt_lt2, tt_ge2, tt_gt2, tt_le2, tt_gr, tt_gi, tt_pi, tt_gl, tt_pl, tt_ia, tt_st, tt_ir, tt_zr, tt_lr, tt_vr, tt_cv, tt_cs, tt_max, tt_min, tt_rem, tt_xor, tt_len, tt_cp, tt_thr, tt_xv, tt_xs, k_sv, k_cl, k_kz, List.getElem?_cons_zero, List.getElem?_cons_succ, List.drop_succ_cons, List.drop_zero, List.take_succ_cons, List.take_zero, List.reverse_cons, List.reverse_nil, List.nil_append, List.cons_append, List.length_cons, List.length_nil, Option.toList_some, Option.toList_none, Nat.reduceAdd, Nat.reduceLeDiff, true_and, and_true, sp_I, sp_II, sp_III, sp_JI, sp_JJ, sp_R2, sp_R5I, sp_V]
  exact ⟨fun q => absurd q (by decide), fun _ => ⟨fun _ => ⟨fun q => absurd q (by decide), fun _ => g⟩, fun q => q trivial⟩⟩
theorem b_head {L : Nat} {xs : Nat → Int32} (hn : n < 28) (h : LI F T M) (hT : T ≤ 12 * n) (hk : HK ad b n k) : T_law_head ad b L xs k (lL ad b (nI F) (nI n) g4 g5 g6 g7 g8 g9 g10 g11 g12) [] M := by
  have g := b_body (ad := ad) (L := L) (xs := xs) (g4 := g4) (g5 := g5) (g6 := g6) (g7 := g7) (g8 := g8) (g9 := g9) (g10 := g10) (g11 := g11) (g12 := g12) hn h hT hk
  simp only [T_law_head, tt_c, tt_lc, tt_il, tt_ll, tt_al, tt_is, tt_lsv, tt_as, tt_inc, tt_add, tt_sub, tt_mul, tt_and, tt_ladd, tt_lmul, tt_i2l, tt_lcmp, tt_dupr, tt_dup2, tt_eq0, tt_lt0, tt_le0, tt_ge0, tt_gt0, tt_eq2, tt_lt2, tt_ge2, tt_gt2, tt_le2, tt_gr, tt_gi, tt_pi, tt_gl, tt_pl, tt_ia, tt_st, tt_ir, tt_zr, tt_lr, tt_vr, tt_cv, tt_cs, tt_max, tt_min, tt_rem, tt_xor, tt_len, tt_cp, tt_thr, tt_xv, tt_xs, k_sv, k_cl, k_kz, List.getElem?_cons_zero, List.getElem?_cons_succ, List.drop_succ_cons, List.drop_zero, List.take_succ_cons, List.take_zero, List.reverse_cons, List.reverse_nil, List.nil_append, List.cons_append, List.length_cons, List.length_nil, Option.toList_some, Option.toList_none, Nat.reduceAdd, Nat.reduceLeDiff, true_and, and_true, sp_I, sp_II, sp_III, sp_JI, sp_JJ, sp_R2, sp_R5I, sp_V]
  refine ⟨fun q => ?_, fun _ => g⟩
  rw [show (28 : Int32) = nI 28 from rfl, nI_leI (by omega) (by omega)] at q
  omega
theorem b_last {L : Nat} {xs : Nat → Int32} (h : LI F T M) : T_law_head ad b L xs k (lL ad b (nI F) (nI 28) g4 g5 g6 g7 g8 g9 g10 g11 g12) [] M := by
  have g := b_exit (ad := ad) (b := b) (n := 28) (g4 := g4) (g5 := g5) (g6 := g6) (g7 := g7) (g8 := g8) (g9 := g9) (g10 := g10) (g11 := g11) (g12 := g12) h
  simp only [T_law_head, tt_c, tt_lc, tt_il, tt_ll, tt_al, tt_is, tt_lsv, tt_as, tt_inc, tt_add, tt_sub, tt_mul, tt_and, tt_ladd, tt_lmul, tt_i2l, tt_lcmp, tt_dupr, tt_dup2, tt_eq0, tt_lt0, tt_le0, tt_ge0, tt_gt0, tt_eq2, tt_lt2, tt_ge2, tt_gt2, tt_le2, tt_gr, tt_gi, tt_pi, tt_gl, tt_pl, tt_ia, tt_st, tt_ir, tt_zr, tt_lr, tt_vr, tt_cv, tt_cs, tt_max, tt_min, tt_rem, tt_xor, tt_len, tt_cp, tt_thr, tt_xv, tt_xs, k_sv, k_cl, k_kz, List.getElem?_cons_zero, List.getElem?_cons_succ, List.drop_succ_cons, List.drop_zero, List.take_succ_cons, List.take_zero, List.reverse_cons, List.reverse_nil, List.nil_append, List.cons_append, List.length_cons, List.length_nil, Option.toList_some, Option.toList_none, Nat.reduceAdd, Nat.reduceLeDiff, true_and, and_true, sp_I, sp_II, sp_III, sp_JI, sp_JJ, sp_R2, sp_R5I, sp_V]
  exact ⟨fun _ => g, fun q => absurd (by decide) q⟩
end BO
