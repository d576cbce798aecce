/-! printed by wip/whole/genbody.py: one turn of the law's loop, in numbers -/
def T_tail (ad : Nat → Nat) (k : Tr) : Tr := (tt_is 6 (tt_al 2 (tt_cv ad 6 0 (sp_V fr_thrown) (tt_il 5 (tt_eq2 (tt_il 5 (tt_eq0 (tt_al 3 (tt_c 0 (tt_la ad (tt_il 6 (tt_i2l (tt_lcmp (tt_eq0 (tt_inc 4 4 k) (tt_c 0 tt_no)))))))) (tt_inc 4 4 k))) (tt_c 0 tt_no))))))
def T_tailz (ad : Nat → Nat) (k : Tr) : Tr := (tt_is 6 (tt_al 2 (tt_cv ad 6 0 (sp_V fr_thrown) (tt_il 5 (tt_eq2 (tt_il 5 (tt_eq0 (tt_al 3 (tt_c 0 (tt_la ad (tt_il 6 (tt_eq0 (tt_lc 0 (tt_lcmp (tt_eq0 (tt_inc 4 4 k) (tt_c 0 tt_no)))) (tt_lc 1 (tt_lcmp (tt_eq0 (tt_inc 4 4 k) (tt_c 0 tt_no))))))))) (tt_inc 4 4 k))) (tt_c 0 tt_no))))))
theorem tail_ok {ad : Nat → Nat} {k : Tr} {b : Nat} {i kk bb : Int32} {z : Option Value} {M : Mm} (h3 : M.1 4 3 = kk) (h1 : kk = 0 → M.2 1 = bb.toInt64) (hk : k [some (.ref b), some (.ref (ad 0)), some (.ref (ad 6)), some (.ref (ad 9)), some (.int (i + 4)), some (.int kk), some (.int bb)] [] M) : T_tail ad k [some (.ref b), some (.ref (ad 0)), some (.ref (ad 6)), some (.ref (ad 9)), some (.int i), some (.int kk), z] [.int bb] M := by
  unfold T_tail
  simp only [tt_c, tt_lc, tt_il, tt_ll, tt_al, tt_is, tt_lsv, tt_as, tt_inc, tt_add, tt_sub, tt_mul, tt_and, tt_ladd, tt_lmul, tt_i2l, tt_lcmp, tt_dupr, tt_dup2, tt_eq0, tt_lt0, tt_le0, tt_ge0, tt_gt0, tt_eq2, tt_lt2, tt_ge2, tt_gt2, tt_le2, tt_gr, tt_gi, tt_pi, tt_gl, tt_pl, tt_ia, tt_st, tt_ir, tt_zr, tt_lr, tt_vr, tt_cv, tt_cs, tt_max, tt_min, tt_rem, tt_xor, tt_len, tt_cp, tt_thr, tt_xv, tt_xs, k_sv, k_cl, k_kz, List.getElem?_cons_zero, List.getElem?_cons_succ, List.drop_succ_cons, List.drop_zero, List.take_succ_cons, List.take_zero, List.reverse_cons, List.reverse_nil, List.nil_append, List.cons_append, List.length_cons, List.length_nil, Option.toList_some, Option.toList_none, Nat.reduceAdd, Nat.reduceLeDiff, true_and, and_true, sp_I, sp_II, sp_III, sp_J, sp_JI, sp_JJ, sp_R2, sp_R5I, sp_V, fr_thrown, h3, tt_la, tt_no, vi9, cl_0]
  refine ⟨fun _ => ⟨fun h0 => ?_, fun _ => hk⟩, fun h => absurd trivial h⟩
  rw [h1 h0, cmp_self]
  exact ⟨fun _ => hk, fun h => absurd rfl h⟩
theorem tailz_ok {ad : Nat → Nat} {k : Tr} {b : Nat} {i kk bb : Int32} {z : Option Value} {M : Mm} (h3 : M.1 4 3 = kk) (h1 : kk = 0 → M.2 1 = bb.toInt64) (hb : bb = 0 ∨ bb = 1) (hk : k [some (.ref b), some (.ref (ad 0)), some (.ref (ad 6)), some (.ref (ad 9)), some (.int (i + 4)), some (.int kk), some (.int bb)] [] M) : T_tailz ad k [some (.ref b), some (.ref (ad 0)), some (.ref (ad 6)), some (.ref (ad 9)), some (.int i), some (.int kk), z] [.int bb] M := by
  unfold T_tailz
  simp only [tt_c, tt_lc, tt_il, tt_ll, tt_al, tt_is, tt_lsv, tt_as, tt_inc, tt_add, tt_sub, tt_mul, tt_and, tt_ladd, tt_lmul, tt_i2l, tt_lcmp, tt_dupr, tt_dup2, tt_eq0, tt_lt0, tt_le0, tt_ge0, tt_gt0, tt_eq2, tt_lt2, tt_ge2, tt_gt2, tt_le2, tt_gr, tt_gi, tt_pi, tt_gl, tt_pl, tt_ia, tt_st, tt_ir, tt_zr, tt_lr, tt_vr, tt_cv, tt_cs, tt_max, tt_min, tt_rem, tt_xor, tt_len, tt_cp, tt_thr, tt_xv, tt_xs, k_sv, k_cl, k_kz, List.getElem?_cons_zero, List.getElem?_cons_succ, List.drop_succ_cons, List.drop_zero, List.take_succ_cons, List.take_zero, List.reverse_cons, List.reverse_nil, List.nil_append, List.cons_append, List.length_cons, List.length_nil, Option.toList_some, Option.toList_none, Nat.reduceAdd, Nat.reduceLeDiff, true_and, and_true, sp_I, sp_II, sp_III, sp_J, sp_JI, sp_JJ, sp_R2, sp_R5I, sp_V, fr_thrown, h3, tt_la, tt_no, vi9, cl_0]
  refine ⟨fun _ => ⟨fun h0 => ?_, fun _ => hk⟩, fun h => absurd trivial h⟩
  rw [h1 h0]
  rcases hb with rfl | rfl
  · exact ⟨fun _ => ⟨fun _ => hk, fun h => absurd (by decide) h⟩, fun h => absurd rfl h⟩
  · exact ⟨fun h => absurd h (by decide), fun _ => ⟨fun _ => hk, fun h => absurd (by decide) h⟩⟩
theorem qZ_b {cd : Int32} {g b : Bool} {M M2 : Mm} {v : Int32} (h : qZ cd g b M = some (.inl (some (.int v), M2))) : v = 0 ∨ v = 1 := by
  unfold qZ at h
  split at h
  · split at h
    · cases h
      cases b
      · exact Or.inl rfl
      · exact Or.inr rfl
    · cases h
  · cases h
    exact Or.inl rfl
theorem x4_1 (a : Nat) : nI a + 1 = nI (a + 1) := nI_add a 1
theorem x4_2 (a : Nat) : nI a + 2 = nI (a + 2) := nI_add a 2
theorem x4_3 (a : Nat) : nI a + 3 = nI (a + 3) := nI_add a 3
theorem sq_join (ad : Nat → Nat) (x0 x1 x2 : Int32) (M : Mm) : sw_join ad [.ref (ad 0), .int x0, .int x1, .int x2, .ref (ad 9)] M = wX [k_IOE, k_IAE, k_ISE] (f_join x0 x1 x2 M) := if_pos ⟨rfl, rfl⟩
theorem B_case_144 {ad : Nat → Nat} {b L i : Nat} {xs : Nat → Int32} {k : Tr} {y z : Option Value} {M : Mm} (hW : WR M) (hi : 4 * i + 3 < L) (hL : L ≤ 2048) (hk : ∀ y z M, WR M → k [some (.ref b), some (.ref (ad 0)), some (.ref (ad 6)), some (.ref (ad 9)), some (.int (nI (4 * i) + 4)), y, z] [] M) : T_case_144 ad b L xs k [some (.ref b), some (.ref (ad 0)), some (.ref (ad 6)), some (.ref (ad 9)), some (.int (nI (4 * i))), y, z] [] M := by
  obtain ⟨kk, M1, bb, M2, e1, e2, e3, e4, e5⟩ := ag_join hW (xs (4 * i + 1)) (xs (4 * i + 2)) (xs (4 * i + 3))
  replace e1 : wX [k_IOE, k_IAE, k_ISE] (f_join (xs (4 * i + 1)) (xs (4 * i + 2)) (xs (4 * i + 3)) M) = some (.inl (some (.int kk), M1)) := e1
  replace e2 : fr_join (xs (4 * i + 1)) (xs (4 * i + 2)) (xs (4 * i + 3)) M1 = some (.inl (some (.int bb), M2)) := e2
  have v1 : vp_in (nI (4 * i + 1)) L := vp_in_nI (by omega) (by omega)
  have c1 : (nI (4 * i + 1)).toNatClampNeg = 4 * i + 1 := nI_clamp (by omega)
  have v2 : vp_in (nI (4 * i + 2)) L := vp_in_nI (by omega) (by omega)
  have c2 : (nI (4 * i + 2)).toNatClampNeg = 4 * i + 2 := nI_clamp (by omega)
  have v3 : vp_in (nI (4 * i + 3)) L := vp_in_nI (by omega) (by omega)
  have c3 : (nI (4 * i + 3)).toNatClampNeg = 4 * i + 3 := nI_clamp (by omega)
  show (tt_al 1 (tt_al 0 (tt_il 4 (tt_c 1 (tt_add (tt_sl b L xs (tt_al 0 (tt_il 4 (tt_c 2 (tt_add (tt_sl b L xs (tt_al 0 (tt_il 4 (tt_c 3 (tt_add (tt_sl b L xs (tt_al 3 (tt_cs 5 (sw_join ad) (tt_is 5 (tt_al 2 (tt_al 0 (tt_il 4 (tt_c 1 (tt_add (tt_sl b L xs (tt_al 0 (tt_il 4 (tt_c 2 (tt_add (tt_sl b L xs (tt_al 0 (tt_il 4 (tt_c 3 (tt_add (tt_sl b L xs (tt_cv ad 6 3 (sp_III fr_join) (T_tail ad k))))))))))))))))))))))))))))))))))))) [some (.ref b), some (.ref (ad 0)), some (.ref (ad 6)), some (.ref (ad 9)), some (.int (nI (4 * i))), y, z] [] M
  simp only [tt_c, tt_lc, tt_il, tt_ll, tt_al, tt_is, tt_lsv, tt_as, tt_inc, tt_add, tt_sub, tt_mul, tt_and, tt_ladd, tt_lmul, tt_i2l, tt_lcmp, tt_dupr, tt_dup2, tt_eq0, tt_lt0, tt_le0, tt_ge0, tt_gt0, tt_eq2, tt_lt2, tt_ge2, tt_gt2, tt_le2, tt_gr, tt_gi, tt_pi, tt_gl, tt_pl, tt_ia, tt_st, tt_ir, tt_zr, tt_lr, tt_vr, tt_cv, tt_cs, tt_max, tt_min, tt_rem, tt_xor, tt_len, tt_cp, tt_thr, tt_xv, tt_xs, k_sv, k_cl, k_kz, List.getElem?_cons_zero, List.getElem?_cons_succ, List.drop_succ_cons, List.drop_zero, List.take_succ_cons, List.take_zero, List.reverse_cons, List.reverse_nil, List.nil_append, List.cons_append, List.length_cons, List.length_nil, Option.toList_some, Option.toList_none, Nat.reduceAdd, Nat.reduceLeDiff, true_and, and_true, sp_I, sp_II, sp_III, sp_J, sp_JI, sp_JJ, sp_R2, sp_R5I, sp_V, sq_join, e1, e2, tt_sl, x4_1, x4_2, x4_3, v1, v2, v3, c1, c2, c3]
  exact tail_ok e3 e4 (hk _ _ _ e5)
theorem sq_leave (ad : Nat → Nat) (x0 : Int32) (M : Mm) : sw_leave ad [.ref (ad 0), .int x0, .ref (ad 9)] M = wX [k_IOE, k_ISE] (f_leave x0 M) := if_pos ⟨rfl, rfl⟩
theorem B_case_224 {ad : Nat → Nat} {b L i : Nat} {xs : Nat → Int32} {k : Tr} {y z : Option Value} {M : Mm} (hW : WR M) (hi : 4 * i + 3 < L) (hL : L ≤ 2048) (hk : ∀ y z M, WR M → k [some (.ref b), some (.ref (ad 0)), some (.ref (ad 6)), some (.ref (ad 9)), some (.int (nI (4 * i) + 4)), y, z] [] M) : T_case_224 ad b L xs k [some (.ref b), some (.ref (ad 0)), some (.ref (ad 6)), some (.ref (ad 9)), some (.int (nI (4 * i))), y, z] [] M := by
  obtain ⟨kk, M1, bb, M2, e1, e2, e3, e4, e5⟩ := ag_leave hW (xs (4 * i + 1))
  replace e1 : wX [k_IOE, k_ISE] (f_leave (xs (4 * i + 1)) M) = some (.inl (some (.int kk), M1)) := e1
  replace e2 : fr_leave (xs (4 * i + 1)) M1 = some (.inl (some (.int bb), M2)) := e2
  have v1 : vp_in (nI (4 * i + 1)) L := vp_in_nI (by omega) (by omega)
  have c1 : (nI (4 * i + 1)).toNatClampNeg = 4 * i + 1 := nI_clamp (by omega)
  show (tt_al 1 (tt_al 0 (tt_il 4 (tt_c 1 (tt_add (tt_sl b L xs (tt_al 3 (tt_cs 3 (sw_leave ad) (tt_is 5 (tt_al 2 (tt_al 0 (tt_il 4 (tt_c 1 (tt_add (tt_sl b L xs (tt_cv ad 6 1 (sp_I fr_leave) (T_tail ad k))))))))))))))))) [some (.ref b), some (.ref (ad 0)), some (.ref (ad 6)), some (.ref (ad 9)), some (.int (nI (4 * i))), y, z] [] M
  simp only [tt_c, tt_lc, tt_il, tt_ll, tt_al, tt_is, tt_lsv, tt_as, tt_inc, tt_add, tt_sub, tt_mul, tt_and, tt_ladd, tt_lmul, tt_i2l, tt_lcmp, tt_dupr, tt_dup2, tt_eq0, tt_lt0, tt_le0, tt_ge0, tt_gt0, tt_eq2, tt_lt2, tt_ge2, tt_gt2, tt_le2, tt_gr, tt_gi, tt_pi, tt_gl, tt_pl, tt_ia, tt_st, tt_ir, tt_zr, tt_lr, tt_vr, tt_cv, tt_cs, tt_max, tt_min, tt_rem, tt_xor, tt_len, tt_cp, tt_thr, tt_xv, tt_xs, k_sv, k_cl, k_kz, List.getElem?_cons_zero, List.getElem?_cons_succ, List.drop_succ_cons, List.drop_zero, List.take_succ_cons, List.take_zero, List.reverse_cons, List.reverse_nil, List.nil_append, List.cons_append, List.length_cons, List.length_nil, Option.toList_some, Option.toList_none, Nat.reduceAdd, Nat.reduceLeDiff, true_and, and_true, sp_I, sp_II, sp_III, sp_J, sp_JI, sp_JJ, sp_R2, sp_R5I, sp_V, sq_leave, e1, e2, tt_sl, x4_1, x4_2, x4_3, v1, c1]
  exact tail_ok e3 e4 (hk _ _ _ e5)
theorem sq_fail (ad : Nat → Nat) (x0 : Int32) (M : Mm) : sw_fail ad [.ref (ad 0), .int x0, .ref (ad 9)] M = wX [k_IOE, k_ISE] (f_fail x0 M) := if_pos ⟨rfl, rfl⟩
theorem B_case_280 {ad : Nat → Nat} {b L i : Nat} {xs : Nat → Int32} {k : Tr} {y z : Option Value} {M : Mm} (hW : WR M) (hi : 4 * i + 3 < L) (hL : L ≤ 2048) (hk : ∀ y z M, WR M → k [some (.ref b), some (.ref (ad 0)), some (.ref (ad 6)), some (.ref (ad 9)), some (.int (nI (4 * i) + 4)), y, z] [] M) : T_case_280 ad b L xs k [some (.ref b), some (.ref (ad 0)), some (.ref (ad 6)), some (.ref (ad 9)), some (.int (nI (4 * i))), y, z] [] M := by
  obtain ⟨kk, M1, bb, M2, e1, e2, e3, e4, e5⟩ := ag_fail hW (xs (4 * i + 1))
  replace e1 : wX [k_IOE, k_ISE] (f_fail (xs (4 * i + 1)) M) = some (.inl (some (.int kk), M1)) := e1
  replace e2 : fr_fail (xs (4 * i + 1)) M1 = some (.inl (some (.int bb), M2)) := e2
  have v1 : vp_in (nI (4 * i + 1)) L := vp_in_nI (by omega) (by omega)
  have c1 : (nI (4 * i + 1)).toNatClampNeg = 4 * i + 1 := nI_clamp (by omega)
  show (tt_al 1 (tt_al 0 (tt_il 4 (tt_c 1 (tt_add (tt_sl b L xs (tt_al 3 (tt_cs 3 (sw_fail ad) (tt_is 5 (tt_al 2 (tt_al 0 (tt_il 4 (tt_c 1 (tt_add (tt_sl b L xs (tt_cv ad 6 1 (sp_I fr_fail) (T_tail ad k))))))))))))))))) [some (.ref b), some (.ref (ad 0)), some (.ref (ad 6)), some (.ref (ad 9)), some (.int (nI (4 * i))), y, z] [] M
  simp only [tt_c, tt_lc, tt_il, tt_ll, tt_al, tt_is, tt_lsv, tt_as, tt_inc, tt_add, tt_sub, tt_mul, tt_and, tt_ladd, tt_lmul, tt_i2l, tt_lcmp, tt_dupr, tt_dup2, tt_eq0, tt_lt0, tt_le0, tt_ge0, tt_gt0, tt_eq2, tt_lt2, tt_ge2, tt_gt2, tt_le2, tt_gr, tt_gi, tt_pi, tt_gl, tt_pl, tt_ia, tt_st, tt_ir, tt_zr, tt_lr, tt_vr, tt_cv, tt_cs, tt_max, tt_min, tt_rem, tt_xor, tt_len, tt_cp, tt_thr, tt_xv, tt_xs, k_sv, k_cl, k_kz, List.getElem?_cons_zero, List.getElem?_cons_succ, List.drop_succ_cons, List.drop_zero, List.take_succ_cons, List.take_zero, List.reverse_cons, List.reverse_nil, List.nil_append, List.cons_append, List.length_cons, List.length_nil, Option.toList_some, Option.toList_none, Nat.reduceAdd, Nat.reduceLeDiff, true_and, and_true, sp_I, sp_II, sp_III, sp_J, sp_JI, sp_JJ, sp_R2, sp_R5I, sp_V, sq_fail, e1, e2, tt_sl, x4_1, x4_2, x4_3, v1, c1]
  exact tail_ok e3 e4 (hk _ _ _ e5)
theorem sq_setBound (ad : Nat → Nat) (x0 x1 : Int32) (M : Mm) : sw_setBound ad [.ref (ad 0), .int x0, .int x1, .ref (ad 9)] M = wX [k_IOE, k_IAE, k_ISE] (f_setBound x0 x1 M) := if_pos ⟨rfl, rfl⟩
theorem B_case_336 {ad : Nat → Nat} {b L i : Nat} {xs : Nat → Int32} {k : Tr} {y z : Option Value} {M : Mm} (hW : WR M) (hi : 4 * i + 3 < L) (hL : L ≤ 2048) (hk : ∀ y z M, WR M → k [some (.ref b), some (.ref (ad 0)), some (.ref (ad 6)), some (.ref (ad 9)), some (.int (nI (4 * i) + 4)), y, z] [] M) : T_case_336 ad b L xs k [some (.ref b), some (.ref (ad 0)), some (.ref (ad 6)), some (.ref (ad 9)), some (.int (nI (4 * i))), y, z] [] M := by
  obtain ⟨kk, M1, bb, M2, e1, e2, e3, e4, e5⟩ := ag_setBound hW (xs (4 * i + 1)) (xs (4 * i + 2))
  replace e1 : wX [k_IOE, k_IAE, k_ISE] (f_setBound (xs (4 * i + 1)) (xs (4 * i + 2)) M) = some (.inl (some (.int kk), M1)) := e1
  replace e2 : fr_setBound (xs (4 * i + 1)) (xs (4 * i + 2)) M1 = some (.inl (some (.int bb), M2)) := e2
  have v1 : vp_in (nI (4 * i + 1)) L := vp_in_nI (by omega) (by omega)
  have c1 : (nI (4 * i + 1)).toNatClampNeg = 4 * i + 1 := nI_clamp (by omega)
  have v2 : vp_in (nI (4 * i + 2)) L := vp_in_nI (by omega) (by omega)
  have c2 : (nI (4 * i + 2)).toNatClampNeg = 4 * i + 2 := nI_clamp (by omega)
  show (tt_al 1 (tt_al 0 (tt_il 4 (tt_c 1 (tt_add (tt_sl b L xs (tt_al 0 (tt_il 4 (tt_c 2 (tt_add (tt_sl b L xs (tt_al 3 (tt_cs 4 (sw_setBound ad) (tt_is 5 (tt_al 2 (tt_al 0 (tt_il 4 (tt_c 1 (tt_add (tt_sl b L xs (tt_al 0 (tt_il 4 (tt_c 2 (tt_add (tt_sl b L xs (tt_cv ad 6 2 (sp_II fr_setBound) (T_tail ad k))))))))))))))))))))))))))) [some (.ref b), some (.ref (ad 0)), some (.ref (ad 6)), some (.ref (ad 9)), some (.int (nI (4 * i))), y, z] [] M
  simp only [tt_c, tt_lc, tt_il, tt_ll, tt_al, tt_is, tt_lsv, tt_as, tt_inc, tt_add, tt_sub, tt_mul, tt_and, tt_ladd, tt_lmul, tt_i2l, tt_lcmp, tt_dupr, tt_dup2, tt_eq0, tt_lt0, tt_le0, tt_ge0, tt_gt0, tt_eq2, tt_lt2, tt_ge2, tt_gt2, tt_le2, tt_gr, tt_gi, tt_pi, tt_gl, tt_pl, tt_ia, tt_st, tt_ir, tt_zr, tt_lr, tt_vr, tt_cv, tt_cs, tt_max, tt_min, tt_rem, tt_xor, tt_len, tt_cp, tt_thr, tt_xv, tt_xs, k_sv, k_cl, k_kz, List.getElem?_cons_zero, List.getElem?_cons_succ, List.drop_succ_cons, List.drop_zero, List.take_succ_cons, List.take_zero, List.reverse_cons, List.reverse_nil, List.nil_append, List.cons_append, List.length_cons, List.length_nil, Option.toList_some, Option.toList_none, Nat.reduceAdd, Nat.reduceLeDiff, true_and, and_true, sp_I, sp_II, sp_III, sp_J, sp_JI, sp_JJ, sp_R2, sp_R5I, sp_V, sq_setBound, e1, e2, tt_sl, x4_1, x4_2, x4_3, v1, v2, c1, c2]
  exact tail_ok e3 e4 (hk _ _ _ e5)
theorem sq_setSource (ad : Nat → Nat) (x0 : Int32) (M : Mm) : sw_setSource ad [.ref (ad 0), .int x0, .ref (ad 9)] M = wX [k_IAE] (f_setSource x0 M) := if_pos ⟨rfl, rfl⟩
theorem B_case_404 {ad : Nat → Nat} {b L i : Nat} {xs : Nat → Int32} {k : Tr} {y z : Option Value} {M : Mm} (hW : WR M) (hi : 4 * i + 3 < L) (hL : L ≤ 2048) (hk : ∀ y z M, WR M → k [some (.ref b), some (.ref (ad 0)), some (.ref (ad 6)), some (.ref (ad 9)), some (.int (nI (4 * i) + 4)), y, z] [] M) : T_case_404 ad b L xs k [some (.ref b), some (.ref (ad 0)), some (.ref (ad 6)), some (.ref (ad 9)), some (.int (nI (4 * i))), y, z] [] M := by
  obtain ⟨kk, M1, bb, M2, e1, e2, e3, e4, e5⟩ := ag_setSource hW (xs (4 * i + 1))
  replace e1 : wX [k_IAE] (f_setSource (xs (4 * i + 1)) M) = some (.inl (some (.int kk), M1)) := e1
  replace e2 : fr_setSource (xs (4 * i + 1)) M1 = some (.inl (some (.int bb), M2)) := e2
  have v1 : vp_in (nI (4 * i + 1)) L := vp_in_nI (by omega) (by omega)
  have c1 : (nI (4 * i + 1)).toNatClampNeg = 4 * i + 1 := nI_clamp (by omega)
  show (tt_al 1 (tt_al 0 (tt_il 4 (tt_c 1 (tt_add (tt_sl b L xs (tt_al 3 (tt_cs 3 (sw_setSource ad) (tt_is 5 (tt_al 2 (tt_al 0 (tt_il 4 (tt_c 1 (tt_add (tt_sl b L xs (tt_cv ad 6 1 (sp_I fr_setSource) (T_tail ad k))))))))))))))))) [some (.ref b), some (.ref (ad 0)), some (.ref (ad 6)), some (.ref (ad 9)), some (.int (nI (4 * i))), y, z] [] M
  simp only [tt_c, tt_lc, tt_il, tt_ll, tt_al, tt_is, tt_lsv, tt_as, tt_inc, tt_add, tt_sub, tt_mul, tt_and, tt_ladd, tt_lmul, tt_i2l, tt_lcmp, tt_dupr, tt_dup2, tt_eq0, tt_lt0, tt_le0, tt_ge0, tt_gt0, tt_eq2, tt_lt2, tt_ge2, tt_gt2, tt_le2, tt_gr, tt_gi, tt_pi, tt_gl, tt_pl, tt_ia, tt_st, tt_ir, tt_zr, tt_lr, tt_vr, tt_cv, tt_cs, tt_max, tt_min, tt_rem, tt_xor, tt_len, tt_cp, tt_thr, tt_xv, tt_xs, k_sv, k_cl, k_kz, List.getElem?_cons_zero, List.getElem?_cons_succ, List.drop_succ_cons, List.drop_zero, List.take_succ_cons, List.take_zero, List.reverse_cons, List.reverse_nil, List.nil_append, List.cons_append, List.length_cons, List.length_nil, Option.toList_some, Option.toList_none, Nat.reduceAdd, Nat.reduceLeDiff, true_and, and_true, sp_I, sp_II, sp_III, sp_J, sp_JI, sp_JJ, sp_R2, sp_R5I, sp_V, sq_setSource, e1, e2, tt_sl, x4_1, x4_2, x4_3, v1, c1]
  exact tail_ok e3 e4 (hk _ _ _ e5)
theorem sq_setDelay (ad : Nat → Nat) (x0 : Int32) (M : Mm) : sw_setDelay ad [.ref (ad 0), .int x0, .ref (ad 9)] M = wX [k_IAE] (f_setDelay x0 M) := if_pos ⟨rfl, rfl⟩
theorem B_case_460 {ad : Nat → Nat} {b L i : Nat} {xs : Nat → Int32} {k : Tr} {y z : Option Value} {M : Mm} (hW : WR M) (hi : 4 * i + 3 < L) (hL : L ≤ 2048) (hk : ∀ y z M, WR M → k [some (.ref b), some (.ref (ad 0)), some (.ref (ad 6)), some (.ref (ad 9)), some (.int (nI (4 * i) + 4)), y, z] [] M) : T_case_460 ad b L xs k [some (.ref b), some (.ref (ad 0)), some (.ref (ad 6)), some (.ref (ad 9)), some (.int (nI (4 * i))), y, z] [] M := by
  obtain ⟨kk, M1, bb, M2, e1, e2, e3, e4, e5⟩ := ag_setDelay hW (xs (4 * i + 1))
  replace e1 : wX [k_IAE] (f_setDelay (xs (4 * i + 1)) M) = some (.inl (some (.int kk), M1)) := e1
  replace e2 : fr_setDelay (xs (4 * i + 1)) M1 = some (.inl (some (.int bb), M2)) := e2
  have v1 : vp_in (nI (4 * i + 1)) L := vp_in_nI (by omega) (by omega)
  have c1 : (nI (4 * i + 1)).toNatClampNeg = 4 * i + 1 := nI_clamp (by omega)
  show (tt_al 1 (tt_al 0 (tt_il 4 (tt_c 1 (tt_add (tt_sl b L xs (tt_al 3 (tt_cs 3 (sw_setDelay ad) (tt_is 5 (tt_al 2 (tt_al 0 (tt_il 4 (tt_c 1 (tt_add (tt_sl b L xs (tt_cv ad 6 1 (sp_I fr_setDelay) (T_tail ad k))))))))))))))))) [some (.ref b), some (.ref (ad 0)), some (.ref (ad 6)), some (.ref (ad 9)), some (.int (nI (4 * i))), y, z] [] M
  simp only [tt_c, tt_lc, tt_il, tt_ll, tt_al, tt_is, tt_lsv, tt_as, tt_inc, tt_add, tt_sub, tt_mul, tt_and, tt_ladd, tt_lmul, tt_i2l, tt_lcmp, tt_dupr, tt_dup2, tt_eq0, tt_lt0, tt_le0, tt_ge0, tt_gt0, tt_eq2, tt_lt2, tt_ge2, tt_gt2, tt_le2, tt_gr, tt_gi, tt_pi, tt_gl, tt_pl, tt_ia, tt_st, tt_ir, tt_zr, tt_lr, tt_vr, tt_cv, tt_cs, tt_max, tt_min, tt_rem, tt_xor, tt_len, tt_cp, tt_thr, tt_xv, tt_xs, k_sv, k_cl, k_kz, List.getElem?_cons_zero, List.getElem?_cons_succ, List.drop_succ_cons, List.drop_zero, List.take_succ_cons, List.take_zero, List.reverse_cons, List.reverse_nil, List.nil_append, List.cons_append, List.length_cons, List.length_nil, Option.toList_some, Option.toList_none, Nat.reduceAdd, Nat.reduceLeDiff, true_and, and_true, sp_I, sp_II, sp_III, sp_J, sp_JI, sp_JJ, sp_R2, sp_R5I, sp_V, sq_setDelay, e1, e2, tt_sl, x4_1, x4_2, x4_3, v1, c1]
  exact tail_ok e3 e4 (hk _ _ _ e5)
theorem B_case_516 {ad : Nat → Nat} {b L i : Nat} {xs : Nat → Int32} {k : Tr} {y z : Option Value} {M : Mm} (hW : WR M) (hi : 4 * i + 3 < L) (hL : L ≤ 2048) (hk : ∀ y z M, WR M → k [some (.ref b), some (.ref (ad 0)), some (.ref (ad 6)), some (.ref (ad 9)), some (.int (nI (4 * i) + 4)), y, z] [] M) : T_case_516 ad b L xs k [some (.ref b), some (.ref (ad 0)), some (.ref (ad 6)), some (.ref (ad 9)), some (.int (nI (4 * i))), y, z] [] M := by
  obtain ⟨v, M1, M2, e1, e2, e5⟩ := ag_repair hW
  unfold T_case_516
  simp only [tt_c, tt_lc, tt_il, tt_ll, tt_al, tt_is, tt_lsv, tt_as, tt_inc, tt_add, tt_sub, tt_mul, tt_and, tt_ladd, tt_lmul, tt_i2l, tt_lcmp, tt_dupr, tt_dup2, tt_eq0, tt_lt0, tt_le0, tt_ge0, tt_gt0, tt_eq2, tt_lt2, tt_ge2, tt_gt2, tt_le2, tt_gr, tt_gi, tt_pi, tt_gl, tt_pl, tt_ia, tt_st, tt_ir, tt_zr, tt_lr, tt_vr, tt_cv, tt_cs, tt_max, tt_min, tt_rem, tt_xor, tt_len, tt_cp, tt_thr, tt_xv, tt_xs, k_sv, k_cl, k_kz, List.getElem?_cons_zero, List.getElem?_cons_succ, List.drop_succ_cons, List.drop_zero, List.take_succ_cons, List.take_zero, List.reverse_cons, List.reverse_nil, List.nil_append, List.cons_append, List.length_cons, List.length_nil, Option.toList_some, Option.toList_none, Nat.reduceAdd, Nat.reduceLeDiff, true_and, and_true, sp_I, sp_II, sp_III, sp_J, sp_JI, sp_JJ, sp_R2, sp_R5I, sp_V, e1, e2, tt_no]
  exact ⟨fun _ => hk _ _ _ e5, fun h => absurd trivial h⟩
theorem sq_rejoin (ad : Nat → Nat) (x0 x1 : Int32) (M : Mm) : sw_rejoin ad [.ref (ad 0), .int x0, .int x1, .ref (ad 9)] M = wX [k_IOE, k_ISE] (f_rejoin x0 x1 M) := if_pos ⟨rfl, rfl⟩
theorem B_case_529 {ad : Nat → Nat} {b L i : Nat} {xs : Nat → Int32} {k : Tr} {y z : Option Value} {M : Mm} (hW : WR M) (hi : 4 * i + 3 < L) (hL : L ≤ 2048) (hk : ∀ y z M, WR M → k [some (.ref b), some (.ref (ad 0)), some (.ref (ad 6)), some (.ref (ad 9)), some (.int (nI (4 * i) + 4)), y, z] [] M) : T_case_529 ad b L xs k [some (.ref b), some (.ref (ad 0)), some (.ref (ad 6)), some (.ref (ad 9)), some (.int (nI (4 * i))), y, z] [] M := by
  obtain ⟨kk, M1, bb, M2, e1, e2, e3, e4, e5⟩ := ag_rejoin hW (xs (4 * i + 1)) (xs (4 * i + 2))
  replace e1 : wX [k_IOE, k_ISE] (f_rejoin (xs (4 * i + 1)) (xs (4 * i + 2)) M) = some (.inl (some (.int kk), M1)) := e1
  replace e2 : fr_rejoin (xs (4 * i + 1)) (xs (4 * i + 2)) M1 = some (.inl (some (.int bb), M2)) := e2
  have v1 : vp_in (nI (4 * i + 1)) L := vp_in_nI (by omega) (by omega)
  have c1 : (nI (4 * i + 1)).toNatClampNeg = 4 * i + 1 := nI_clamp (by omega)
  have v2 : vp_in (nI (4 * i + 2)) L := vp_in_nI (by omega) (by omega)
  have c2 : (nI (4 * i + 2)).toNatClampNeg = 4 * i + 2 := nI_clamp (by omega)
  show (tt_al 1 (tt_al 0 (tt_il 4 (tt_c 1 (tt_add (tt_sl b L xs (tt_al 0 (tt_il 4 (tt_c 2 (tt_add (tt_sl b L xs (tt_al 3 (tt_cs 4 (sw_rejoin ad) (tt_is 5 (tt_al 2 (tt_al 0 (tt_il 4 (tt_c 1 (tt_add (tt_sl b L xs (tt_al 0 (tt_il 4 (tt_c 2 (tt_add (tt_sl b L xs (tt_cv ad 6 2 (sp_II fr_rejoin) (T_tail ad k))))))))))))))))))))))))))) [some (.ref b), some (.ref (ad 0)), some (.ref (ad 6)), some (.ref (ad 9)), some (.int (nI (4 * i))), y, z] [] M
  simp only [tt_c, tt_lc, tt_il, tt_ll, tt_al, tt_is, tt_lsv, tt_as, tt_inc, tt_add, tt_sub, tt_mul, tt_and, tt_ladd, tt_lmul, tt_i2l, tt_lcmp, tt_dupr, tt_dup2, tt_eq0, tt_lt0, tt_le0, tt_ge0, tt_gt0, tt_eq2, tt_lt2, tt_ge2, tt_gt2, tt_le2, tt_gr, tt_gi, tt_pi, tt_gl, tt_pl, tt_ia, tt_st, tt_ir, tt_zr, tt_lr, tt_vr, tt_cv, tt_cs, tt_max, tt_min, tt_rem, tt_xor, tt_len, tt_cp, tt_thr, tt_xv, tt_xs, k_sv, k_cl, k_kz, List.getElem?_cons_zero, List.getElem?_cons_succ, List.drop_succ_cons, List.drop_zero, List.take_succ_cons, List.take_zero, List.reverse_cons, List.reverse_nil, List.nil_append, List.cons_append, List.length_cons, List.length_nil, Option.toList_some, Option.toList_none, Nat.reduceAdd, Nat.reduceLeDiff, true_and, and_true, sp_I, sp_II, sp_III, sp_J, sp_JI, sp_JJ, sp_R2, sp_R5I, sp_V, sq_rejoin, e1, e2, tt_sl, x4_1, x4_2, x4_3, v1, v2, c1, c2]
  exact tail_ok e3 e4 (hk _ _ _ e5)
theorem sq_tick (ad : Nat → Nat) (x0 : Int32) (M : Mm) : sw_tick ad [.ref (ad 0), .int x0, .ref (ad 9)] M = wX [k_IAE] (f_tick x0 M) := if_pos ⟨rfl, rfl⟩
theorem B_case_597 {ad : Nat → Nat} {b L i : Nat} {xs : Nat → Int32} {k : Tr} {y z : Option Value} {M : Mm} (hW : WR M) (hi : 4 * i + 3 < L) (hL : L ≤ 2048) (hk : ∀ y z M, WR M → k [some (.ref b), some (.ref (ad 0)), some (.ref (ad 6)), some (.ref (ad 9)), some (.int (nI (4 * i) + 4)), y, z] [] M) : T_case_597 ad b L xs k [some (.ref b), some (.ref (ad 0)), some (.ref (ad 6)), some (.ref (ad 9)), some (.int (nI (4 * i))), y, z] [] M := by
  obtain ⟨kk, M1, bb, M2, e1, e2, e3, e4, e5⟩ := ag_tick hW (xs (4 * i + 1))
  replace e1 : wX [k_IAE] (f_tick (xs (4 * i + 1)) M) = some (.inl (some (.int kk), M1)) := e1
  replace e2 : fr_tick (xs (4 * i + 1)) M1 = some (.inl (some (.int bb), M2)) := e2
  have v1 : vp_in (nI (4 * i + 1)) L := vp_in_nI (by omega) (by omega)
  have c1 : (nI (4 * i + 1)).toNatClampNeg = 4 * i + 1 := nI_clamp (by omega)
  show (tt_al 1 (tt_al 0 (tt_il 4 (tt_c 1 (tt_add (tt_sl b L xs (tt_al 3 (tt_cs 3 (sw_tick ad) (tt_is 5 (tt_al 2 (tt_al 0 (tt_il 4 (tt_c 1 (tt_add (tt_sl b L xs (tt_cv ad 6 1 (sp_I fr_tick) (T_tail ad k))))))))))))))))) [some (.ref b), some (.ref (ad 0)), some (.ref (ad 6)), some (.ref (ad 9)), some (.int (nI (4 * i))), y, z] [] M
  simp only [tt_c, tt_lc, tt_il, tt_ll, tt_al, tt_is, tt_lsv, tt_as, tt_inc, tt_add, tt_sub, tt_mul, tt_and, tt_ladd, tt_lmul, tt_i2l, tt_lcmp, tt_dupr, tt_dup2, tt_eq0, tt_lt0, tt_le0, tt_ge0, tt_gt0, tt_eq2, tt_lt2, tt_ge2, tt_gt2, tt_le2, tt_gr, tt_gi, tt_pi, tt_gl, tt_pl, tt_ia, tt_st, tt_ir, tt_zr, tt_lr, tt_vr, tt_cv, tt_cs, tt_max, tt_min, tt_rem, tt_xor, tt_len, tt_cp, tt_thr, tt_xv, tt_xs, k_sv, k_cl, k_kz, List.getElem?_cons_zero, List.getElem?_cons_succ, List.drop_succ_cons, List.drop_zero, List.take_succ_cons, List.take_zero, List.reverse_cons, List.reverse_nil, List.nil_append, List.cons_append, List.length_cons, List.length_nil, Option.toList_some, Option.toList_none, Nat.reduceAdd, Nat.reduceLeDiff, true_and, and_true, sp_I, sp_II, sp_III, sp_J, sp_JI, sp_JJ, sp_R2, sp_R5I, sp_V, sq_tick, e1, e2, tt_sl, x4_1, x4_2, x4_3, v1, c1]
  exact tail_ok e3 e4 (hk _ _ _ e5)
theorem B_case_653 {ad : Nat → Nat} {b L i : Nat} {xs : Nat → Int32} {k : Tr} {y z : Option Value} {M : Mm} (hW : WR M) (hi : 4 * i + 3 < L) (hL : L ≤ 2048) (hk : ∀ y z M, WR M → k [some (.ref b), some (.ref (ad 0)), some (.ref (ad 6)), some (.ref (ad 9)), some (.int (nI (4 * i) + 4)), y, z] [] M) : T_case_653 ad b L xs k [some (.ref b), some (.ref (ad 0)), some (.ref (ad 6)), some (.ref (ad 9)), some (.int (nI (4 * i))), y, z] [] M := by
  obtain ⟨v, M1, M2, e1, e2, e5⟩ := ag_time hW
  unfold T_case_653
  simp only [tt_c, tt_lc, tt_il, tt_ll, tt_al, tt_is, tt_lsv, tt_as, tt_inc, tt_add, tt_sub, tt_mul, tt_and, tt_ladd, tt_lmul, tt_i2l, tt_lcmp, tt_dupr, tt_dup2, tt_eq0, tt_lt0, tt_le0, tt_ge0, tt_gt0, tt_eq2, tt_lt2, tt_ge2, tt_gt2, tt_le2, tt_gr, tt_gi, tt_pi, tt_gl, tt_pl, tt_ia, tt_st, tt_ir, tt_zr, tt_lr, tt_vr, tt_cv, tt_cs, tt_max, tt_min, tt_rem, tt_xor, tt_len, tt_cp, tt_thr, tt_xv, tt_xs, k_sv, k_cl, k_kz, List.getElem?_cons_zero, List.getElem?_cons_succ, List.drop_succ_cons, List.drop_zero, List.take_succ_cons, List.take_zero, List.reverse_cons, List.reverse_nil, List.nil_append, List.cons_append, List.length_cons, List.length_nil, Option.toList_some, Option.toList_none, Nat.reduceAdd, Nat.reduceLeDiff, true_and, and_true, sp_I, sp_II, sp_III, sp_J, sp_JI, sp_JJ, sp_R2, sp_R5I, sp_V, e1, e2, tt_no]
  exact ⟨fun _ => hk _ _ _ e5, fun h => absurd trivial h⟩
theorem sq_member (ad : Nat → Nat) (x0 x1 : Int32) (M : Mm) : sw_member ad [.ref (ad 0), .int x0, .int x1, .ref (ad 9)] M = wX [k_IOE, k_IAE] (f_member x0 x1 M) := if_pos ⟨rfl, rfl⟩
theorem B_case_666 {ad : Nat → Nat} {b L i : Nat} {xs : Nat → Int32} {k : Tr} {y z : Option Value} {M : Mm} (hW : WR M) (hi : 4 * i + 3 < L) (hL : L ≤ 2048) (hk : ∀ y z M, WR M → k [some (.ref b), some (.ref (ad 0)), some (.ref (ad 6)), some (.ref (ad 9)), some (.int (nI (4 * i) + 4)), y, z] [] M) : T_case_666 ad b L xs k [some (.ref b), some (.ref (ad 0)), some (.ref (ad 6)), some (.ref (ad 9)), some (.int (nI (4 * i))), y, z] [] M := by
  obtain ⟨kk, M1, bb, M2, e1, e2, e3, e4, e5⟩ := ag_member hW (xs (4 * i + 1)) (xs (4 * i + 2))
  replace e1 : wX [k_IOE, k_IAE] (f_member (xs (4 * i + 1)) (xs (4 * i + 2)) M) = some (.inl (some (.int kk), M1)) := e1
  replace e2 : fr_member (xs (4 * i + 1)) (xs (4 * i + 2)) M1 = some (.inl (some (.int bb), M2)) := e2
  have v1 : vp_in (nI (4 * i + 1)) L := vp_in_nI (by omega) (by omega)
  have c1 : (nI (4 * i + 1)).toNatClampNeg = 4 * i + 1 := nI_clamp (by omega)
  have v2 : vp_in (nI (4 * i + 2)) L := vp_in_nI (by omega) (by omega)
  have c2 : (nI (4 * i + 2)).toNatClampNeg = 4 * i + 2 := nI_clamp (by omega)
  show (tt_al 1 (tt_al 0 (tt_il 4 (tt_c 1 (tt_add (tt_sl b L xs (tt_al 0 (tt_il 4 (tt_c 2 (tt_add (tt_sl b L xs (tt_al 3 (tt_cs 4 (sw_member ad) (tt_is 5 (tt_al 2 (tt_al 0 (tt_il 4 (tt_c 1 (tt_add (tt_sl b L xs (tt_al 0 (tt_il 4 (tt_c 2 (tt_add (tt_sl b L xs (tt_cv ad 6 2 (sp_II fr_member) (T_tail ad k))))))))))))))))))))))))))) [some (.ref b), some (.ref (ad 0)), some (.ref (ad 6)), some (.ref (ad 9)), some (.int (nI (4 * i))), y, z] [] M
  simp only [tt_c, tt_lc, tt_il, tt_ll, tt_al, tt_is, tt_lsv, tt_as, tt_inc, tt_add, tt_sub, tt_mul, tt_and, tt_ladd, tt_lmul, tt_i2l, tt_lcmp, tt_dupr, tt_dup2, tt_eq0, tt_lt0, tt_le0, tt_ge0, tt_gt0, tt_eq2, tt_lt2, tt_ge2, tt_gt2, tt_le2, tt_gr, tt_gi, tt_pi, tt_gl, tt_pl, tt_ia, tt_st, tt_ir, tt_zr, tt_lr, tt_vr, tt_cv, tt_cs, tt_max, tt_min, tt_rem, tt_xor, tt_len, tt_cp, tt_thr, tt_xv, tt_xs, k_sv, k_cl, k_kz, List.getElem?_cons_zero, List.getElem?_cons_succ, List.drop_succ_cons, List.drop_zero, List.take_succ_cons, List.take_zero, List.reverse_cons, List.reverse_nil, List.nil_append, List.cons_append, List.length_cons, List.length_nil, Option.toList_some, Option.toList_none, Nat.reduceAdd, Nat.reduceLeDiff, true_and, and_true, sp_I, sp_II, sp_III, sp_J, sp_JI, sp_JJ, sp_R2, sp_R5I, sp_V, sq_member, e1, e2, tt_sl, x4_1, x4_2, x4_3, v1, v2, c1, c2]
  exact tail_ok e3 e4 (hk _ _ _ e5)
theorem sq_parent (ad : Nat → Nat) (x0 x1 : Int32) (M : Mm) : sw_parent ad [.ref (ad 0), .int x0, .int x1, .ref (ad 9)] M = wX [k_IOE, k_ISE] (f_parent x0 x1 M) := if_pos ⟨rfl, rfl⟩
theorem B_case_734 {ad : Nat → Nat} {b L i : Nat} {xs : Nat → Int32} {k : Tr} {y z : Option Value} {M : Mm} (hW : WR M) (hi : 4 * i + 3 < L) (hL : L ≤ 2048) (hk : ∀ y z M, WR M → k [some (.ref b), some (.ref (ad 0)), some (.ref (ad 6)), some (.ref (ad 9)), some (.int (nI (4 * i) + 4)), y, z] [] M) : T_case_734 ad b L xs k [some (.ref b), some (.ref (ad 0)), some (.ref (ad 6)), some (.ref (ad 9)), some (.int (nI (4 * i))), y, z] [] M := by
  obtain ⟨kk, M1, bb, M2, e1, e2, e3, e4, e5⟩ := ag_parent hW (xs (4 * i + 1)) (xs (4 * i + 2))
  replace e1 : wX [k_IOE, k_ISE] (f_parent (xs (4 * i + 1)) (xs (4 * i + 2)) M) = some (.inl (some (.int kk), M1)) := e1
  replace e2 : fr_parent (xs (4 * i + 1)) (xs (4 * i + 2)) M1 = some (.inl (some (.int bb), M2)) := e2
  have v1 : vp_in (nI (4 * i + 1)) L := vp_in_nI (by omega) (by omega)
  have c1 : (nI (4 * i + 1)).toNatClampNeg = 4 * i + 1 := nI_clamp (by omega)
  have v2 : vp_in (nI (4 * i + 2)) L := vp_in_nI (by omega) (by omega)
  have c2 : (nI (4 * i + 2)).toNatClampNeg = 4 * i + 2 := nI_clamp (by omega)
  show (tt_al 1 (tt_al 0 (tt_il 4 (tt_c 1 (tt_add (tt_sl b L xs (tt_al 0 (tt_il 4 (tt_c 2 (tt_add (tt_sl b L xs (tt_al 3 (tt_cs 4 (sw_parent ad) (tt_is 5 (tt_al 2 (tt_al 0 (tt_il 4 (tt_c 1 (tt_add (tt_sl b L xs (tt_al 0 (tt_il 4 (tt_c 2 (tt_add (tt_sl b L xs (tt_cv ad 6 2 (sp_II fr_parent) (T_tail ad k))))))))))))))))))))))))))) [some (.ref b), some (.ref (ad 0)), some (.ref (ad 6)), some (.ref (ad 9)), some (.int (nI (4 * i))), y, z] [] M
  simp only [tt_c, tt_lc, tt_il, tt_ll, tt_al, tt_is, tt_lsv, tt_as, tt_inc, tt_add, tt_sub, tt_mul, tt_and, tt_ladd, tt_lmul, tt_i2l, tt_lcmp, tt_dupr, tt_dup2, tt_eq0, tt_lt0, tt_le0, tt_ge0, tt_gt0, tt_eq2, tt_lt2, tt_ge2, tt_gt2, tt_le2, tt_gr, tt_gi, tt_pi, tt_gl, tt_pl, tt_ia, tt_st, tt_ir, tt_zr, tt_lr, tt_vr, tt_cv, tt_cs, tt_max, tt_min, tt_rem, tt_xor, tt_len, tt_cp, tt_thr, tt_xv, tt_xs, k_sv, k_cl, k_kz, List.getElem?_cons_zero, List.getElem?_cons_succ, List.drop_succ_cons, List.drop_zero, List.take_succ_cons, List.take_zero, List.reverse_cons, List.reverse_nil, List.nil_append, List.cons_append, List.length_cons, List.length_nil, Option.toList_some, Option.toList_none, Nat.reduceAdd, Nat.reduceLeDiff, true_and, and_true, sp_I, sp_II, sp_III, sp_J, sp_JI, sp_JJ, sp_R2, sp_R5I, sp_V, sq_parent, e1, e2, tt_sl, x4_1, x4_2, x4_3, v1, v2, c1, c2]
  exact tail_ok e3 e4 (hk _ _ _ e5)
theorem sq_depth (ad : Nat → Nat) (x0 x1 : Int32) (M : Mm) : sw_depth ad [.ref (ad 0), .int x0, .int x1, .ref (ad 9)] M = wX [k_IOE, k_ISE] (f_depth x0 x1 M) := if_pos ⟨rfl, rfl⟩
theorem B_case_802 {ad : Nat → Nat} {b L i : Nat} {xs : Nat → Int32} {k : Tr} {y z : Option Value} {M : Mm} (hW : WR M) (hi : 4 * i + 3 < L) (hL : L ≤ 2048) (hk : ∀ y z M, WR M → k [some (.ref b), some (.ref (ad 0)), some (.ref (ad 6)), some (.ref (ad 9)), some (.int (nI (4 * i) + 4)), y, z] [] M) : T_case_802 ad b L xs k [some (.ref b), some (.ref (ad 0)), some (.ref (ad 6)), some (.ref (ad 9)), some (.int (nI (4 * i))), y, z] [] M := by
  obtain ⟨kk, M1, bb, M2, e1, e2, e3, e4, e5⟩ := ag_depth hW (xs (4 * i + 1)) (xs (4 * i + 2))
  replace e1 : wX [k_IOE, k_ISE] (f_depth (xs (4 * i + 1)) (xs (4 * i + 2)) M) = some (.inl (some (.int kk), M1)) := e1
  replace e2 : fr_depth (xs (4 * i + 1)) (xs (4 * i + 2)) M1 = some (.inl (some (.int bb), M2)) := e2
  have v1 : vp_in (nI (4 * i + 1)) L := vp_in_nI (by omega) (by omega)
  have c1 : (nI (4 * i + 1)).toNatClampNeg = 4 * i + 1 := nI_clamp (by omega)
  have v2 : vp_in (nI (4 * i + 2)) L := vp_in_nI (by omega) (by omega)
  have c2 : (nI (4 * i + 2)).toNatClampNeg = 4 * i + 2 := nI_clamp (by omega)
  show (tt_al 1 (tt_al 0 (tt_il 4 (tt_c 1 (tt_add (tt_sl b L xs (tt_al 0 (tt_il 4 (tt_c 2 (tt_add (tt_sl b L xs (tt_al 3 (tt_cs 4 (sw_depth ad) (tt_is 5 (tt_al 2 (tt_al 0 (tt_il 4 (tt_c 1 (tt_add (tt_sl b L xs (tt_al 0 (tt_il 4 (tt_c 2 (tt_add (tt_sl b L xs (tt_cv ad 6 2 (sp_II fr_depth) (T_tail ad k))))))))))))))))))))))))))) [some (.ref b), some (.ref (ad 0)), some (.ref (ad 6)), some (.ref (ad 9)), some (.int (nI (4 * i))), y, z] [] M
  simp only [tt_c, tt_lc, tt_il, tt_ll, tt_al, tt_is, tt_lsv, tt_as, tt_inc, tt_add, tt_sub, tt_mul, tt_and, tt_ladd, tt_lmul, tt_i2l, tt_lcmp, tt_dupr, tt_dup2, tt_eq0, tt_lt0, tt_le0, tt_ge0, tt_gt0, tt_eq2, tt_lt2, tt_ge2, tt_gt2, tt_le2, tt_gr, tt_gi, tt_pi, tt_gl, tt_pl, tt_ia, tt_st, tt_ir, tt_zr, tt_lr, tt_vr, tt_cv, tt_cs, tt_max, tt_min, tt_rem, tt_xor, tt_len, tt_cp, tt_thr, tt_xv, tt_xs, k_sv, k_cl, k_kz, List.getElem?_cons_zero, List.getElem?_cons_succ, List.drop_succ_cons, List.drop_zero, List.take_succ_cons, List.take_zero, List.reverse_cons, List.reverse_nil, List.nil_append, List.cons_append, List.length_cons, List.length_nil, Option.toList_some, Option.toList_none, Nat.reduceAdd, Nat.reduceLeDiff, true_and, and_true, sp_I, sp_II, sp_III, sp_J, sp_JI, sp_JJ, sp_R2, sp_R5I, sp_V, sq_depth, e1, e2, tt_sl, x4_1, x4_2, x4_3, v1, v2, c1, c2]
  exact tail_ok e3 e4 (hk _ _ _ e5)
theorem sq_child (ad : Nat → Nat) (x0 x1 x2 : Int32) (M : Mm) : sw_child ad [.ref (ad 0), .int x0, .int x1, .int x2, .ref (ad 9)] M = wX [k_IOE, k_IAE, k_ISE] (f_child x0 x1 x2 M) := if_pos ⟨rfl, rfl⟩
theorem B_case_870 {ad : Nat → Nat} {b L i : Nat} {xs : Nat → Int32} {k : Tr} {y z : Option Value} {M : Mm} (hW : WR M) (hi : 4 * i + 3 < L) (hL : L ≤ 2048) (hk : ∀ y z M, WR M → k [some (.ref b), some (.ref (ad 0)), some (.ref (ad 6)), some (.ref (ad 9)), some (.int (nI (4 * i) + 4)), y, z] [] M) : T_case_870 ad b L xs k [some (.ref b), some (.ref (ad 0)), some (.ref (ad 6)), some (.ref (ad 9)), some (.int (nI (4 * i))), y, z] [] M := by
  obtain ⟨kk, M1, bb, M2, e1, e2, e3, e4, e5⟩ := ag_child hW (xs (4 * i + 1)) (xs (4 * i + 2)) (xs (4 * i + 3))
  replace e1 : wX [k_IOE, k_IAE, k_ISE] (f_child (xs (4 * i + 1)) (xs (4 * i + 2)) (xs (4 * i + 3)) M) = some (.inl (some (.int kk), M1)) := e1
  replace e2 : fr_child (xs (4 * i + 1)) (xs (4 * i + 2)) (xs (4 * i + 3)) M1 = some (.inl (some (.int bb), M2)) := e2
  have v1 : vp_in (nI (4 * i + 1)) L := vp_in_nI (by omega) (by omega)
  have c1 : (nI (4 * i + 1)).toNatClampNeg = 4 * i + 1 := nI_clamp (by omega)
  have v2 : vp_in (nI (4 * i + 2)) L := vp_in_nI (by omega) (by omega)
  have c2 : (nI (4 * i + 2)).toNatClampNeg = 4 * i + 2 := nI_clamp (by omega)
  have v3 : vp_in (nI (4 * i + 3)) L := vp_in_nI (by omega) (by omega)
  have c3 : (nI (4 * i + 3)).toNatClampNeg = 4 * i + 3 := nI_clamp (by omega)
  show (tt_al 1 (tt_al 0 (tt_il 4 (tt_c 1 (tt_add (tt_sl b L xs (tt_al 0 (tt_il 4 (tt_c 2 (tt_add (tt_sl b L xs (tt_al 0 (tt_il 4 (tt_c 3 (tt_add (tt_sl b L xs (tt_al 3 (tt_cs 5 (sw_child ad) (tt_is 5 (tt_al 2 (tt_al 0 (tt_il 4 (tt_c 1 (tt_add (tt_sl b L xs (tt_al 0 (tt_il 4 (tt_c 2 (tt_add (tt_sl b L xs (tt_al 0 (tt_il 4 (tt_c 3 (tt_add (tt_sl b L xs (tt_cv ad 6 3 (sp_III fr_child) (T_tail ad k))))))))))))))))))))))))))))))))))))) [some (.ref b), some (.ref (ad 0)), some (.ref (ad 6)), some (.ref (ad 9)), some (.int (nI (4 * i))), y, z] [] M
  simp only [tt_c, tt_lc, tt_il, tt_ll, tt_al, tt_is, tt_lsv, tt_as, tt_inc, tt_add, tt_sub, tt_mul, tt_and, tt_ladd, tt_lmul, tt_i2l, tt_lcmp, tt_dupr, tt_dup2, tt_eq0, tt_lt0, tt_le0, tt_ge0, tt_gt0, tt_eq2, tt_lt2, tt_ge2, tt_gt2, tt_le2, tt_gr, tt_gi, tt_pi, tt_gl, tt_pl, tt_ia, tt_st, tt_ir, tt_zr, tt_lr, tt_vr, tt_cv, tt_cs, tt_max, tt_min, tt_rem, tt_xor, tt_len, tt_cp, tt_thr, tt_xv, tt_xs, k_sv, k_cl, k_kz, List.getElem?_cons_zero, List.getElem?_cons_succ, List.drop_succ_cons, List.drop_zero, List.take_succ_cons, List.take_zero, List.reverse_cons, List.reverse_nil, List.nil_append, List.cons_append, List.length_cons, List.length_nil, Option.toList_some, Option.toList_none, Nat.reduceAdd, Nat.reduceLeDiff, true_and, and_true, sp_I, sp_II, sp_III, sp_J, sp_JI, sp_JJ, sp_R2, sp_R5I, sp_V, sq_child, e1, e2, tt_sl, x4_1, x4_2, x4_3, v1, v2, v3, c1, c2, c3]
  exact tail_ok e3 e4 (hk _ _ _ e5)
theorem sq_subtree (ad : Nat → Nat) (x0 x1 : Int32) (M : Mm) : sw_subtree ad [.ref (ad 0), .int x0, .int x1, .ref (ad 9)] M = wX [k_IOE, k_ISE] (f_subtree x0 x1 M) := if_pos ⟨rfl, rfl⟩
theorem B_case_950 {ad : Nat → Nat} {b L i : Nat} {xs : Nat → Int32} {k : Tr} {y z : Option Value} {M : Mm} (hW : WR M) (hi : 4 * i + 3 < L) (hL : L ≤ 2048) (hk : ∀ y z M, WR M → k [some (.ref b), some (.ref (ad 0)), some (.ref (ad 6)), some (.ref (ad 9)), some (.int (nI (4 * i) + 4)), y, z] [] M) : T_case_950 ad b L xs k [some (.ref b), some (.ref (ad 0)), some (.ref (ad 6)), some (.ref (ad 9)), some (.int (nI (4 * i))), y, z] [] M := by
  obtain ⟨kk, M1, bb, M2, e1, e2, e3, e4, e5⟩ := ag_subtree hW (xs (4 * i + 1)) (xs (4 * i + 2))
  replace e1 : wX [k_IOE, k_ISE] (f_subtree (xs (4 * i + 1)) (xs (4 * i + 2)) M) = some (.inl (some (.int kk), M1)) := e1
  replace e2 : fr_subtree (xs (4 * i + 1)) (xs (4 * i + 2)) M1 = some (.inl (some (.int bb), M2)) := e2
  have v1 : vp_in (nI (4 * i + 1)) L := vp_in_nI (by omega) (by omega)
  have c1 : (nI (4 * i + 1)).toNatClampNeg = 4 * i + 1 := nI_clamp (by omega)
  have v2 : vp_in (nI (4 * i + 2)) L := vp_in_nI (by omega) (by omega)
  have c2 : (nI (4 * i + 2)).toNatClampNeg = 4 * i + 2 := nI_clamp (by omega)
  show (tt_al 1 (tt_al 0 (tt_il 4 (tt_c 1 (tt_add (tt_sl b L xs (tt_al 0 (tt_il 4 (tt_c 2 (tt_add (tt_sl b L xs (tt_al 3 (tt_cs 4 (sw_subtree ad) (tt_is 5 (tt_al 2 (tt_al 0 (tt_il 4 (tt_c 1 (tt_add (tt_sl b L xs (tt_al 0 (tt_il 4 (tt_c 2 (tt_add (tt_sl b L xs (tt_cv ad 6 2 (sp_II fr_subtree) (T_tail ad k))))))))))))))))))))))))))) [some (.ref b), some (.ref (ad 0)), some (.ref (ad 6)), some (.ref (ad 9)), some (.int (nI (4 * i))), y, z] [] M
  simp only [tt_c, tt_lc, tt_il, tt_ll, tt_al, tt_is, tt_lsv, tt_as, tt_inc, tt_add, tt_sub, tt_mul, tt_and, tt_ladd, tt_lmul, tt_i2l, tt_lcmp, tt_dupr, tt_dup2, tt_eq0, tt_lt0, tt_le0, tt_ge0, tt_gt0, tt_eq2, tt_lt2, tt_ge2, tt_gt2, tt_le2, tt_gr, tt_gi, tt_pi, tt_gl, tt_pl, tt_ia, tt_st, tt_ir, tt_zr, tt_lr, tt_vr, tt_cv, tt_cs, tt_max, tt_min, tt_rem, tt_xor, tt_len, tt_cp, tt_thr, tt_xv, tt_xs, k_sv, k_cl, k_kz, List.getElem?_cons_zero, List.getElem?_cons_succ, List.drop_succ_cons, List.drop_zero, List.take_succ_cons, List.take_zero, List.reverse_cons, List.reverse_nil, List.nil_append, List.cons_append, List.length_cons, List.length_nil, Option.toList_some, Option.toList_none, Nat.reduceAdd, Nat.reduceLeDiff, true_and, and_true, sp_I, sp_II, sp_III, sp_J, sp_JI, sp_JJ, sp_R2, sp_R5I, sp_V, sq_subtree, e1, e2, tt_sl, x4_1, x4_2, x4_3, v1, v2, c1, c2]
  exact tail_ok e3 e4 (hk _ _ _ e5)
theorem sq_hasRoom (ad : Nat → Nat) (x0 x1 : Int32) (M : Mm) : sw_hasRoom ad [.ref (ad 0), .int x0, .int x1, .ref (ad 9)] M = wX [k_IOE, k_ISE] (f_hasRoom x0 x1 M) := if_pos ⟨rfl, rfl⟩
theorem B_case_1018 {ad : Nat → Nat} {b L i : Nat} {xs : Nat → Int32} {k : Tr} {y z : Option Value} {M : Mm} (hW : WR M) (hi : 4 * i + 3 < L) (hL : L ≤ 2048) (hk : ∀ y z M, WR M → k [some (.ref b), some (.ref (ad 0)), some (.ref (ad 6)), some (.ref (ad 9)), some (.int (nI (4 * i) + 4)), y, z] [] M) : T_case_1018 ad b L xs k [some (.ref b), some (.ref (ad 0)), some (.ref (ad 6)), some (.ref (ad 9)), some (.int (nI (4 * i))), y, z] [] M := by
  obtain ⟨kk, M1, bb, M2, e1, e2, e3, e4, e5⟩ := ag_hasRoom hW (xs (4 * i + 1)) (xs (4 * i + 2))
  replace e1 : wX [k_IOE, k_ISE] (f_hasRoom (xs (4 * i + 1)) (xs (4 * i + 2)) M) = some (.inl (some (.int kk), M1)) := e1
  replace e2 : fr_hasRoom (xs (4 * i + 1)) (xs (4 * i + 2)) M1 = some (.inl (some (.int bb), M2)) := e2
  have v1 : vp_in (nI (4 * i + 1)) L := vp_in_nI (by omega) (by omega)
  have c1 : (nI (4 * i + 1)).toNatClampNeg = 4 * i + 1 := nI_clamp (by omega)
  have v2 : vp_in (nI (4 * i + 2)) L := vp_in_nI (by omega) (by omega)
  have c2 : (nI (4 * i + 2)).toNatClampNeg = 4 * i + 2 := nI_clamp (by omega)
  have hb : bb = 0 ∨ bb = 1 := qZ_b e2
  show (tt_al 1 (tt_al 0 (tt_il 4 (tt_c 1 (tt_add (tt_sl b L xs (tt_al 0 (tt_il 4 (tt_c 2 (tt_add (tt_sl b L xs (tt_al 3 (tt_cs 4 (sw_hasRoom ad) (tt_is 5 (tt_al 2 (tt_al 0 (tt_il 4 (tt_c 1 (tt_add (tt_sl b L xs (tt_al 0 (tt_il 4 (tt_c 2 (tt_add (tt_sl b L xs (tt_cv ad 6 2 (sp_II fr_hasRoom) (T_tailz ad k))))))))))))))))))))))))))) [some (.ref b), some (.ref (ad 0)), some (.ref (ad 6)), some (.ref (ad 9)), some (.int (nI (4 * i))), y, z] [] M
  simp only [tt_c, tt_lc, tt_il, tt_ll, tt_al, tt_is, tt_lsv, tt_as, tt_inc, tt_add, tt_sub, tt_mul, tt_and, tt_ladd, tt_lmul, tt_i2l, tt_lcmp, tt_dupr, tt_dup2, tt_eq0, tt_lt0, tt_le0, tt_ge0, tt_gt0, tt_eq2, tt_lt2, tt_ge2, tt_gt2, tt_le2, tt_gr, tt_gi, tt_pi, tt_gl, tt_pl, tt_ia, tt_st, tt_ir, tt_zr, tt_lr, tt_vr, tt_cv, tt_cs, tt_max, tt_min, tt_rem, tt_xor, tt_len, tt_cp, tt_thr, tt_xv, tt_xs, k_sv, k_cl, k_kz, List.getElem?_cons_zero, List.getElem?_cons_succ, List.drop_succ_cons, List.drop_zero, List.take_succ_cons, List.take_zero, List.reverse_cons, List.reverse_nil, List.nil_append, List.cons_append, List.length_cons, List.length_nil, Option.toList_some, Option.toList_none, Nat.reduceAdd, Nat.reduceLeDiff, true_and, and_true, sp_I, sp_II, sp_III, sp_J, sp_JI, sp_JJ, sp_R2, sp_R5I, sp_V, sq_hasRoom, e1, e2, tt_sl, x4_1, x4_2, x4_3, v1, v2, c1, c2]
  exact tailz_ok e3 e4 hb (hk _ _ _ e5)
theorem sq_ranksBefore (ad : Nat → Nat) (x0 x1 x2 : Int32) (M : Mm) : sw_ranksBefore ad [.ref (ad 0), .int x0, .int x1, .int x2, .ref (ad 9)] M = wX [k_IOE, k_IAE, k_ISE] (f_ranksBefore x0 x1 x2 M) := if_pos ⟨rfl, rfl⟩
theorem B_case_1093 {ad : Nat → Nat} {b L i : Nat} {xs : Nat → Int32} {k : Tr} {y z : Option Value} {M : Mm} (hW : WR M) (hi : 4 * i + 3 < L) (hL : L ≤ 2048) (hk : ∀ y z M, WR M → k [some (.ref b), some (.ref (ad 0)), some (.ref (ad 6)), some (.ref (ad 9)), some (.int (nI (4 * i) + 4)), y, z] [] M) : T_case_1093 ad b L xs k [some (.ref b), some (.ref (ad 0)), some (.ref (ad 6)), some (.ref (ad 9)), some (.int (nI (4 * i))), y, z] [] M := by
  obtain ⟨kk, M1, bb, M2, e1, e2, e3, e4, e5⟩ := ag_ranksBefore hW (xs (4 * i + 1)) (xs (4 * i + 2)) (xs (4 * i + 3))
  replace e1 : wX [k_IOE, k_IAE, k_ISE] (f_ranksBefore (xs (4 * i + 1)) (xs (4 * i + 2)) (xs (4 * i + 3)) M) = some (.inl (some (.int kk), M1)) := e1
  replace e2 : fr_ranksBefore (xs (4 * i + 1)) (xs (4 * i + 2)) (xs (4 * i + 3)) M1 = some (.inl (some (.int bb), M2)) := e2
  have v1 : vp_in (nI (4 * i + 1)) L := vp_in_nI (by omega) (by omega)
  have c1 : (nI (4 * i + 1)).toNatClampNeg = 4 * i + 1 := nI_clamp (by omega)
  have v2 : vp_in (nI (4 * i + 2)) L := vp_in_nI (by omega) (by omega)
  have c2 : (nI (4 * i + 2)).toNatClampNeg = 4 * i + 2 := nI_clamp (by omega)
  have v3 : vp_in (nI (4 * i + 3)) L := vp_in_nI (by omega) (by omega)
  have c3 : (nI (4 * i + 3)).toNatClampNeg = 4 * i + 3 := nI_clamp (by omega)
  have hb : bb = 0 ∨ bb = 1 := qZ_b e2
  show (tt_al 1 (tt_al 0 (tt_il 4 (tt_c 1 (tt_add (tt_sl b L xs (tt_al 0 (tt_il 4 (tt_c 2 (tt_add (tt_sl b L xs (tt_al 0 (tt_il 4 (tt_c 3 (tt_add (tt_sl b L xs (tt_al 3 (tt_cs 5 (sw_ranksBefore ad) (tt_is 5 (tt_al 2 (tt_al 0 (tt_il 4 (tt_c 1 (tt_add (tt_sl b L xs (tt_al 0 (tt_il 4 (tt_c 2 (tt_add (tt_sl b L xs (tt_al 0 (tt_il 4 (tt_c 3 (tt_add (tt_sl b L xs (tt_cv ad 6 3 (sp_III fr_ranksBefore) (T_tailz ad k))))))))))))))))))))))))))))))))))))) [some (.ref b), some (.ref (ad 0)), some (.ref (ad 6)), some (.ref (ad 9)), some (.int (nI (4 * i))), y, z] [] M
  simp only [tt_c, tt_lc, tt_il, tt_ll, tt_al, tt_is, tt_lsv, tt_as, tt_inc, tt_add, tt_sub, tt_mul, tt_and, tt_ladd, tt_lmul, tt_i2l, tt_lcmp, tt_dupr, tt_dup2, tt_eq0, tt_lt0, tt_le0, tt_ge0, tt_gt0, tt_eq2, tt_lt2, tt_ge2, tt_gt2, tt_le2, tt_gr, tt_gi, tt_pi, tt_gl, tt_pl, tt_ia, tt_st, tt_ir, tt_zr, tt_lr, tt_vr, tt_cv, tt_cs, tt_max, tt_min, tt_rem, tt_xor, tt_len, tt_cp, tt_thr, tt_xv, tt_xs, k_sv, k_cl, k_kz, List.getElem?_cons_zero, List.getElem?_cons_succ, List.drop_succ_cons, List.drop_zero, List.take_succ_cons, List.take_zero, List.reverse_cons, List.reverse_nil, List.nil_append, List.cons_append, List.length_cons, List.length_nil, Option.toList_some, Option.toList_none, Nat.reduceAdd, Nat.reduceLeDiff, true_and, and_true, sp_I, sp_II, sp_III, sp_J, sp_JI, sp_JJ, sp_R2, sp_R5I, sp_V, sq_ranksBefore, e1, e2, tt_sl, x4_1, x4_2, x4_3, v1, v2, v3, c1, c2, c3]
  exact tailz_ok e3 e4 hb (hk _ _ _ e5)
theorem sq_harm (ad : Nat → Nat) (x0 : Int32) (M : Mm) : sw_harm ad [.ref (ad 0), .int x0, .ref (ad 9)] M = wX [k_IOE, k_ISE] (f_harm x0 M) := if_pos ⟨rfl, rfl⟩
theorem B_case_1180 {ad : Nat → Nat} {b L i : Nat} {xs : Nat → Int32} {k : Tr} {y z : Option Value} {M : Mm} (hW : WR M) (hi : 4 * i + 3 < L) (hL : L ≤ 2048) (hk : ∀ y z M, WR M → k [some (.ref b), some (.ref (ad 0)), some (.ref (ad 6)), some (.ref (ad 9)), some (.int (nI (4 * i) + 4)), y, z] [] M) : T_case_1180 ad b L xs k [some (.ref b), some (.ref (ad 0)), some (.ref (ad 6)), some (.ref (ad 9)), some (.int (nI (4 * i))), y, z] [] M := by
  obtain ⟨kk, M1, bb, M2, e1, e2, e3, e4, e5⟩ := ag_harm hW (xs (4 * i + 1))
  replace e1 : wX [k_IOE, k_ISE] (f_harm (xs (4 * i + 1)) M) = some (.inl (some (.int kk), M1)) := e1
  replace e2 : fr_harm (xs (4 * i + 1)) M1 = some (.inl (some (.int bb), M2)) := e2
  have v1 : vp_in (nI (4 * i + 1)) L := vp_in_nI (by omega) (by omega)
  have c1 : (nI (4 * i + 1)).toNatClampNeg = 4 * i + 1 := nI_clamp (by omega)
  show (tt_al 1 (tt_al 0 (tt_il 4 (tt_c 1 (tt_add (tt_sl b L xs (tt_al 3 (tt_cs 3 (sw_harm ad) (tt_is 5 (tt_al 2 (tt_al 0 (tt_il 4 (tt_c 1 (tt_add (tt_sl b L xs (tt_cv ad 6 1 (sp_I fr_harm) (T_tail ad k))))))))))))))))) [some (.ref b), some (.ref (ad 0)), some (.ref (ad 6)), some (.ref (ad 9)), some (.int (nI (4 * i))), y, z] [] M
  simp only [tt_c, tt_lc, tt_il, tt_ll, tt_al, tt_is, tt_lsv, tt_as, tt_inc, tt_add, tt_sub, tt_mul, tt_and, tt_ladd, tt_lmul, tt_i2l, tt_lcmp, tt_dupr, tt_dup2, tt_eq0, tt_lt0, tt_le0, tt_ge0, tt_gt0, tt_eq2, tt_lt2, tt_ge2, tt_gt2, tt_le2, tt_gr, tt_gi, tt_pi, tt_gl, tt_pl, tt_ia, tt_st, tt_ir, tt_zr, tt_lr, tt_vr, tt_cv, tt_cs, tt_max, tt_min, tt_rem, tt_xor, tt_len, tt_cp, tt_thr, tt_xv, tt_xs, k_sv, k_cl, k_kz, List.getElem?_cons_zero, List.getElem?_cons_succ, List.drop_succ_cons, List.drop_zero, List.take_succ_cons, List.take_zero, List.reverse_cons, List.reverse_nil, List.nil_append, List.cons_append, List.length_cons, List.length_nil, Option.toList_some, Option.toList_none, Nat.reduceAdd, Nat.reduceLeDiff, true_and, and_true, sp_I, sp_II, sp_III, sp_J, sp_JI, sp_JJ, sp_R2, sp_R5I, sp_V, sq_harm, e1, e2, tt_sl, x4_1, x4_2, x4_3, v1, c1]
  exact tail_ok e3 e4 (hk _ _ _ e5)
theorem sq_pieces (ad : Nat → Nat) (x0 : Int32) (M : Mm) : sw_pieces ad [.ref (ad 0), .int x0, .ref (ad 9)] M = wX [k_IOE, k_ISE] (f_pieces x0 M) := if_pos ⟨rfl, rfl⟩
theorem B_case_1236 {ad : Nat → Nat} {b L i : Nat} {xs : Nat → Int32} {k : Tr} {y z : Option Value} {M : Mm} (hW : WR M) (hi : 4 * i + 3 < L) (hL : L ≤ 2048) (hk : ∀ y z M, WR M → k [some (.ref b), some (.ref (ad 0)), some (.ref (ad 6)), some (.ref (ad 9)), some (.int (nI (4 * i) + 4)), y, z] [] M) : T_case_1236 ad b L xs k [some (.ref b), some (.ref (ad 0)), some (.ref (ad 6)), some (.ref (ad 9)), some (.int (nI (4 * i))), y, z] [] M := by
  obtain ⟨kk, M1, bb, M2, e1, e2, e3, e4, e5⟩ := ag_pieces hW (xs (4 * i + 1))
  replace e1 : wX [k_IOE, k_ISE] (f_pieces (xs (4 * i + 1)) M) = some (.inl (some (.int kk), M1)) := e1
  replace e2 : fr_pieces (xs (4 * i + 1)) M1 = some (.inl (some (.int bb), M2)) := e2
  have v1 : vp_in (nI (4 * i + 1)) L := vp_in_nI (by omega) (by omega)
  have c1 : (nI (4 * i + 1)).toNatClampNeg = 4 * i + 1 := nI_clamp (by omega)
  show (tt_al 1 (tt_al 0 (tt_il 4 (tt_c 1 (tt_add (tt_sl b L xs (tt_al 3 (tt_cs 3 (sw_pieces ad) (tt_is 5 (tt_al 2 (tt_al 0 (tt_il 4 (tt_c 1 (tt_add (tt_sl b L xs (tt_cv ad 6 1 (sp_I fr_pieces) (T_tail ad k))))))))))))))))) [some (.ref b), some (.ref (ad 0)), some (.ref (ad 6)), some (.ref (ad 9)), some (.int (nI (4 * i))), y, z] [] M
  simp only [tt_c, tt_lc, tt_il, tt_ll, tt_al, tt_is, tt_lsv, tt_as, tt_inc, tt_add, tt_sub, tt_mul, tt_and, tt_ladd, tt_lmul, tt_i2l, tt_lcmp, tt_dupr, tt_dup2, tt_eq0, tt_lt0, tt_le0, tt_ge0, tt_gt0, tt_eq2, tt_lt2, tt_ge2, tt_gt2, tt_le2, tt_gr, tt_gi, tt_pi, tt_gl, tt_pl, tt_ia, tt_st, tt_ir, tt_zr, tt_lr, tt_vr, tt_cv, tt_cs, tt_max, tt_min, tt_rem, tt_xor, tt_len, tt_cp, tt_thr, tt_xv, tt_xs, k_sv, k_cl, k_kz, List.getElem?_cons_zero, List.getElem?_cons_succ, List.drop_succ_cons, List.drop_zero, List.take_succ_cons, List.take_zero, List.reverse_cons, List.reverse_nil, List.nil_append, List.cons_append, List.length_cons, List.length_nil, Option.toList_some, Option.toList_none, Nat.reduceAdd, Nat.reduceLeDiff, true_and, and_true, sp_I, sp_II, sp_III, sp_J, sp_JI, sp_JJ, sp_R2, sp_R5I, sp_V, sq_pieces, e1, e2, tt_sl, x4_1, x4_2, x4_3, v1, c1]
  exact tail_ok e3 e4 (hk _ _ _ e5)
theorem sq_stripe (ad : Nat → Nat) (x0 x1 : Int32) (M : Mm) : sw_stripe ad [.ref (ad 0), .int x0, .int x1, .ref (ad 9)] M = wX [k_IOE, k_IAE] (f_stripe x0 x1 M) := if_pos ⟨rfl, rfl⟩
theorem B_case_1292 {ad : Nat → Nat} {b L i : Nat} {xs : Nat → Int32} {k : Tr} {y z : Option Value} {M : Mm} (hW : WR M) (hi : 4 * i + 3 < L) (hL : L ≤ 2048) (hk : ∀ y z M, WR M → k [some (.ref b), some (.ref (ad 0)), some (.ref (ad 6)), some (.ref (ad 9)), some (.int (nI (4 * i) + 4)), y, z] [] M) : T_case_1292 ad b L xs k [some (.ref b), some (.ref (ad 0)), some (.ref (ad 6)), some (.ref (ad 9)), some (.int (nI (4 * i))), y, z] [] M := by
  obtain ⟨kk, M1, bb, M2, e1, e2, e3, e4, e5⟩ := ag_stripe hW (xs (4 * i + 1)) (xs (4 * i + 2))
  replace e1 : wX [k_IOE, k_IAE] (f_stripe (xs (4 * i + 1)) (xs (4 * i + 2)) M) = some (.inl (some (.int kk), M1)) := e1
  replace e2 : fr_stripe (xs (4 * i + 1)) (xs (4 * i + 2)) M1 = some (.inl (some (.int bb), M2)) := e2
  have v1 : vp_in (nI (4 * i + 1)) L := vp_in_nI (by omega) (by omega)
  have c1 : (nI (4 * i + 1)).toNatClampNeg = 4 * i + 1 := nI_clamp (by omega)
  have v2 : vp_in (nI (4 * i + 2)) L := vp_in_nI (by omega) (by omega)
  have c2 : (nI (4 * i + 2)).toNatClampNeg = 4 * i + 2 := nI_clamp (by omega)
  show (tt_al 1 (tt_al 0 (tt_il 4 (tt_c 1 (tt_add (tt_sl b L xs (tt_al 0 (tt_il 4 (tt_c 2 (tt_add (tt_sl b L xs (tt_al 3 (tt_cs 4 (sw_stripe ad) (tt_is 5 (tt_al 2 (tt_al 0 (tt_il 4 (tt_c 1 (tt_add (tt_sl b L xs (tt_al 0 (tt_il 4 (tt_c 2 (tt_add (tt_sl b L xs (tt_cv ad 6 2 (sp_II fr_stripe) (T_tail ad k))))))))))))))))))))))))))) [some (.ref b), some (.ref (ad 0)), some (.ref (ad 6)), some (.ref (ad 9)), some (.int (nI (4 * i))), y, z] [] M
  simp only [tt_c, tt_lc, tt_il, tt_ll, tt_al, tt_is, tt_lsv, tt_as, tt_inc, tt_add, tt_sub, tt_mul, tt_and, tt_ladd, tt_lmul, tt_i2l, tt_lcmp, tt_dupr, tt_dup2, tt_eq0, tt_lt0, tt_le0, tt_ge0, tt_gt0, tt_eq2, tt_lt2, tt_ge2, tt_gt2, tt_le2, tt_gr, tt_gi, tt_pi, tt_gl, tt_pl, tt_ia, tt_st, tt_ir, tt_zr, tt_lr, tt_vr, tt_cv, tt_cs, tt_max, tt_min, tt_rem, tt_xor, tt_len, tt_cp, tt_thr, tt_xv, tt_xs, k_sv, k_cl, k_kz, List.getElem?_cons_zero, List.getElem?_cons_succ, List.drop_succ_cons, List.drop_zero, List.take_succ_cons, List.take_zero, List.reverse_cons, List.reverse_nil, List.nil_append, List.cons_append, List.length_cons, List.length_nil, Option.toList_some, Option.toList_none, Nat.reduceAdd, Nat.reduceLeDiff, true_and, and_true, sp_I, sp_II, sp_III, sp_J, sp_JI, sp_JJ, sp_R2, sp_R5I, sp_V, sq_stripe, e1, e2, tt_sl, x4_1, x4_2, x4_3, v1, v2, c1, c2]
  exact tail_ok e3 e4 (hk _ _ _ e5)
theorem sq_count (ad : Nat → Nat) (x0 : Int32) (M : Mm) : sw_count ad [.ref (ad 0), .int x0, .ref (ad 9)] M = wX [k_IAE] (f_count x0 M) := if_pos ⟨rfl, rfl⟩
theorem B_case_1360 {ad : Nat → Nat} {b L i : Nat} {xs : Nat → Int32} {k : Tr} {y z : Option Value} {M : Mm} (hW : WR M) (hi : 4 * i + 3 < L) (hL : L ≤ 2048) (hk : ∀ y z M, WR M → k [some (.ref b), some (.ref (ad 0)), some (.ref (ad 6)), some (.ref (ad 9)), some (.int (nI (4 * i) + 4)), y, z] [] M) : T_case_1360 ad b L xs k [some (.ref b), some (.ref (ad 0)), some (.ref (ad 6)), some (.ref (ad 9)), some (.int (nI (4 * i))), y, z] [] M := by
  obtain ⟨kk, M1, bb, M2, e1, e2, e3, e4, e5⟩ := ag_count hW (xs (4 * i + 1))
  replace e1 : wX [k_IAE] (f_count (xs (4 * i + 1)) M) = some (.inl (some (.int kk), M1)) := e1
  replace e2 : fr_count (xs (4 * i + 1)) M1 = some (.inl (some (.int bb), M2)) := e2
  have v1 : vp_in (nI (4 * i + 1)) L := vp_in_nI (by omega) (by omega)
  have c1 : (nI (4 * i + 1)).toNatClampNeg = 4 * i + 1 := nI_clamp (by omega)
  show (tt_al 1 (tt_al 0 (tt_il 4 (tt_c 1 (tt_add (tt_sl b L xs (tt_al 3 (tt_cs 3 (sw_count ad) (tt_is 5 (tt_al 2 (tt_al 0 (tt_il 4 (tt_c 1 (tt_add (tt_sl b L xs (tt_cv ad 6 1 (sp_I fr_count) (T_tail ad k))))))))))))))))) [some (.ref b), some (.ref (ad 0)), some (.ref (ad 6)), some (.ref (ad 9)), some (.int (nI (4 * i))), y, z] [] M
  simp only [tt_c, tt_lc, tt_il, tt_ll, tt_al, tt_is, tt_lsv, tt_as, tt_inc, tt_add, tt_sub, tt_mul, tt_and, tt_ladd, tt_lmul, tt_i2l, tt_lcmp, tt_dupr, tt_dup2, tt_eq0, tt_lt0, tt_le0, tt_ge0, tt_gt0, tt_eq2, tt_lt2, tt_ge2, tt_gt2, tt_le2, tt_gr, tt_gi, tt_pi, tt_gl, tt_pl, tt_ia, tt_st, tt_ir, tt_zr, tt_lr, tt_vr, tt_cv, tt_cs, tt_max, tt_min, tt_rem, tt_xor, tt_len, tt_cp, tt_thr, tt_xv, tt_xs, k_sv, k_cl, k_kz, List.getElem?_cons_zero, List.getElem?_cons_succ, List.drop_succ_cons, List.drop_zero, List.take_succ_cons, List.take_zero, List.reverse_cons, List.reverse_nil, List.nil_append, List.cons_append, List.length_cons, List.length_nil, Option.toList_some, Option.toList_none, Nat.reduceAdd, Nat.reduceLeDiff, true_and, and_true, sp_I, sp_II, sp_III, sp_J, sp_JI, sp_JJ, sp_R2, sp_R5I, sp_V, sq_count, e1, e2, tt_sl, x4_1, x4_2, x4_3, v1, c1]
  exact tail_ok e3 e4 (hk _ _ _ e5)
theorem sq_undo (ad : Nat → Nat) (M : Mm) : sw_undo ad [.ref (ad 0), .ref (ad 9)] M = wX [k_ISE] (f_undo M) := if_pos ⟨rfl, rfl⟩
theorem B_case_1416 {ad : Nat → Nat} {b L i : Nat} {xs : Nat → Int32} {k : Tr} {y z : Option Value} {M : Mm} (hW : WR M) (hi : 4 * i + 3 < L) (hL : L ≤ 2048) (hk : ∀ y z M, WR M → k [some (.ref b), some (.ref (ad 0)), some (.ref (ad 6)), some (.ref (ad 9)), some (.int (nI (4 * i) + 4)), y, z] [] M) : T_case_1416 ad b L xs k [some (.ref b), some (.ref (ad 0)), some (.ref (ad 6)), some (.ref (ad 9)), some (.int (nI (4 * i))), y, z] [] M := by
  obtain ⟨kk, M1, bb, M2, e1, e2, e3, e4, e5⟩ := ag_undo hW 
  replace e1 : wX [k_ISE] (f_undo M) = some (.inl (some (.int kk), M1)) := e1
  replace e2 : fr_undo M1 = some (.inl (some (.int bb), M2)) := e2
  show (tt_al 1 (tt_al 3 (tt_cs 2 (sw_undo ad) (tt_is 5 (tt_al 2 (tt_cv ad 6 0 (sp_V fr_undo) (T_tail ad k))))))) [some (.ref b), some (.ref (ad 0)), some (.ref (ad 6)), some (.ref (ad 9)), some (.int (nI (4 * i))), y, z] [] M
  simp only [tt_c, tt_lc, tt_il, tt_ll, tt_al, tt_is, tt_lsv, tt_as, tt_inc, tt_add, tt_sub, tt_mul, tt_and, tt_ladd, tt_lmul, tt_i2l, tt_lcmp, tt_dupr, tt_dup2, tt_eq0, tt_lt0, tt_le0, tt_ge0, tt_gt0, tt_eq2, tt_lt2, tt_ge2, tt_gt2, tt_le2, tt_gr, tt_gi, tt_pi, tt_gl, tt_pl, tt_ia, tt_st, tt_ir, tt_zr, tt_lr, tt_vr, tt_cv, tt_cs, tt_max, tt_min, tt_rem, tt_xor, tt_len, tt_cp, tt_thr, tt_xv, tt_xs, k_sv, k_cl, k_kz, List.getElem?_cons_zero, List.getElem?_cons_succ, List.drop_succ_cons, List.drop_zero, List.take_succ_cons, List.take_zero, List.reverse_cons, List.reverse_nil, List.nil_append, List.cons_append, List.length_cons, List.length_nil, Option.toList_some, Option.toList_none, Nat.reduceAdd, Nat.reduceLeDiff, true_and, and_true, sp_I, sp_II, sp_III, sp_J, sp_JI, sp_JJ, sp_R2, sp_R5I, sp_V, sq_undo, e1, e2, tt_sl, x4_1, x4_2, x4_3]
  exact tail_ok e3 e4 (hk _ _ _ e5)
theorem B_case_1460 {ad : Nat → Nat} {b L i : Nat} {xs : Nat → Int32} {k : Tr} {y z : Option Value} {M : Mm} (hW : WR M) (hi : 4 * i + 3 < L) (hL : L ≤ 2048) (hk : ∀ y z M, WR M → k [some (.ref b), some (.ref (ad 0)), some (.ref (ad 6)), some (.ref (ad 9)), some (.int (nI (4 * i) + 4)), y, z] [] M) : T_case_1460 ad b L xs k [some (.ref b), some (.ref (ad 0)), some (.ref (ad 6)), some (.ref (ad 9)), some (.int (nI (4 * i))), y, z] [] M := by
  obtain ⟨v, M1, M2, e1, e2, e5⟩ := ag_digest hW
  unfold T_case_1460
  simp only [tt_c, tt_lc, tt_il, tt_ll, tt_al, tt_is, tt_lsv, tt_as, tt_inc, tt_add, tt_sub, tt_mul, tt_and, tt_ladd, tt_lmul, tt_i2l, tt_lcmp, tt_dupr, tt_dup2, tt_eq0, tt_lt0, tt_le0, tt_ge0, tt_gt0, tt_eq2, tt_lt2, tt_ge2, tt_gt2, tt_le2, tt_gr, tt_gi, tt_pi, tt_gl, tt_pl, tt_ia, tt_st, tt_ir, tt_zr, tt_lr, tt_vr, tt_cv, tt_cs, tt_max, tt_min, tt_rem, tt_xor, tt_len, tt_cp, tt_thr, tt_xv, tt_xs, k_sv, k_cl, k_kz, List.getElem?_cons_zero, List.getElem?_cons_succ, List.drop_succ_cons, List.drop_zero, List.take_succ_cons, List.take_zero, List.reverse_cons, List.reverse_nil, List.nil_append, List.cons_append, List.length_cons, List.length_nil, Option.toList_some, Option.toList_none, Nat.reduceAdd, Nat.reduceLeDiff, true_and, and_true, sp_I, sp_II, sp_III, sp_J, sp_JI, sp_JJ, sp_R2, sp_R5I, sp_V, e1, e2, tt_no, cmp_self]
  exact ⟨fun _ => hk _ _ _ e5, fun h => absurd trivial h⟩
theorem B_case_1474 {ad : Nat → Nat} {b L i : Nat} {xs : Nat → Int32} {k : Tr} {y z : Option Value} {M : Mm} (hW : WR M) (hi : 4 * i + 3 < L) (hL : L ≤ 2048) (hk : ∀ y z M, WR M → k [some (.ref b), some (.ref (ad 0)), some (.ref (ad 6)), some (.ref (ad 9)), some (.int (nI (4 * i) + 4)), y, z] [] M) : T_case_1474 ad b L xs k [some (.ref b), some (.ref (ad 0)), some (.ref (ad 6)), some (.ref (ad 9)), some (.int (nI (4 * i))), y, z] [] M := hk y z M hW
theorem B_body {ad : Nat → Nat} {b L i : Nat} {xs : Nat → Int32} {k : Tr} {y z : Option Value} {M : Mm} (hW : WR M) (hi : 4 * i + 3 < L) (hL : L ≤ 2048) (hk : ∀ y z M, WR M → k [some (.ref b), some (.ref (ad 0)), some (.ref (ad 6)), some (.ref (ad 9)), some (.int (nI (4 * i) + 4)), y, z] [] M) : T_body ad b L xs k [some (.ref b), some (.ref (ad 0)), some (.ref (ad 6)), some (.ref (ad 9)), some (.int (nI (4 * i))), y, z] [] M := by
  have v0 : vp_in (nI (4 * i)) L := vp_in_nI (by omega) (by omega)
  have c0 : (nI (4 * i)).toNatClampNeg = 4 * i := nI_clamp (by omega)
  obtain ⟨j, hj, ej⟩ := pk_andE (xs (4 * i)) (m := 31) 5 rfl
  unfold T_body
  simp only [tt_c, tt_lc, tt_il, tt_ll, tt_al, tt_is, tt_lsv, tt_as, tt_inc, tt_add, tt_sub, tt_mul, tt_and, tt_ladd, tt_lmul, tt_i2l, tt_lcmp, tt_dupr, tt_dup2, tt_eq0, tt_lt0, tt_le0, tt_ge0, tt_gt0, tt_eq2, tt_lt2, tt_ge2, tt_gt2, tt_le2, tt_gr, tt_gi, tt_pi, tt_gl, tt_pl, tt_ia, tt_st, tt_ir, tt_zr, tt_lr, tt_vr, tt_cv, tt_cs, tt_max, tt_min, tt_rem, tt_xor, tt_len, tt_cp, tt_thr, tt_xv, tt_xs, k_sv, k_cl, k_kz, List.getElem?_cons_zero, List.getElem?_cons_succ, List.drop_succ_cons, List.drop_zero, List.take_succ_cons, List.take_zero, List.reverse_cons, List.reverse_nil, List.nil_append, List.cons_append, List.length_cons, List.length_nil, Option.toList_some, Option.toList_none, Nat.reduceAdd, Nat.reduceLeDiff, true_and, and_true, sp_I, sp_II, sp_III, sp_J, sp_JI, sp_JJ, sp_R2, sp_R5I, sp_V, tt_sl, v0, c0, ej]
  unfold tt_sw
  dsimp only
  rw [nI_toInt (by omega)]
  split
  · exact B_case_1474 hW hi hL hk
  · next hc =>
    have hj2 : j < 23 := by
      simp only [List.length_cons, List.length_nil] at hc
      omega
    rw [show ((j : Int) - 0).toNat = j by omega]
    clear hc ej hj
    match j, hj2 with
    | 0, _ => exact B_case_144 hW hi hL hk
    | 1, _ => exact B_case_224 hW hi hL hk
    | 2, _ => exact B_case_280 hW hi hL hk
    | 3, _ => exact B_case_336 hW hi hL hk
    | 4, _ => exact B_case_404 hW hi hL hk
    | 5, _ => exact B_case_460 hW hi hL hk
    | 6, _ => exact B_case_516 hW hi hL hk
    | 7, _ => exact B_case_529 hW hi hL hk
    | 8, _ => exact B_case_597 hW hi hL hk
    | 9, _ => exact B_case_653 hW hi hL hk
    | 10, _ => exact B_case_666 hW hi hL hk
    | 11, _ => exact B_case_734 hW hi hL hk
    | 12, _ => exact B_case_802 hW hi hL hk
    | 13, _ => exact B_case_870 hW hi hL hk
    | 14, _ => exact B_case_950 hW hi hL hk
    | 15, _ => exact B_case_1018 hW hi hL hk
    | 16, _ => exact B_case_1093 hW hi hL hk
    | 17, _ => exact B_case_1180 hW hi hL hk
    | 18, _ => exact B_case_1236 hW hi hL hk
    | 19, _ => exact B_case_1292 hW hi hL hk
    | 20, _ => exact B_case_1360 hW hi hL hk
    | 21, _ => exact B_case_1416 hW hi hL hk
    | 22, _ => exact B_case_1460 hW hi hL hk
    | j + 23, h => exact absurd h (by omega)
/-- at the loop's head with r turns left at most, and what is called so far answered alike -/
def k_TT (ad : Nat → Nat) (b L : Nat) (r : Nat) : Tr := fun F st M => ∃ (i : Nat) (y z : Option Value), F = [some (.ref b), some (.ref (ad 0)), some (.ref (ad 6)), some (.ref (ad 9)), some (.int (nI (4 * i))), y, z] ∧ st = [] ∧ WR M ∧ 4 * i ≤ L ∧ L < 4 * (i + r)
theorem B_head {ad : Nat → Nat} {b L r : Nat} {xs : Nat → Int32} (hL : L ≤ 2048) (F : Ls) (st : List Value) (M : Mm) (h : k_TT ad b L (r + 1) F st M) : T_head ad b L xs (k_TT ad b L r) F st M := by
  obtain ⟨i, y, z, rfl, rfl, hW, h1, h2⟩ := h
  unfold T_head
  simp only [tt_c, tt_lc, tt_il, tt_ll, tt_al, tt_is, tt_lsv, tt_as, tt_inc, tt_add, tt_sub, tt_mul, tt_and, tt_ladd, tt_lmul, tt_i2l, tt_lcmp, tt_dupr, tt_dup2, tt_eq0, tt_lt0, tt_le0, tt_ge0, tt_gt0, tt_eq2, tt_lt2, tt_ge2, tt_gt2, tt_le2, tt_gr, tt_gi, tt_pi, tt_gl, tt_pl, tt_ia, tt_st, tt_ir, tt_zr, tt_lr, tt_vr, tt_cv, tt_cs, tt_max, tt_min, tt_rem, tt_xor, tt_len, tt_cp, tt_thr, tt_xv, tt_xs, k_sv, k_cl, k_kz, List.getElem?_cons_zero, List.getElem?_cons_succ, List.drop_succ_cons, List.drop_zero, List.take_succ_cons, List.take_zero, List.reverse_cons, List.reverse_nil, List.nil_append, List.cons_append, List.length_cons, List.length_nil, Option.toList_some, Option.toList_none, Nat.reduceAdd, Nat.reduceLeDiff, true_and, and_true, sp_I, sp_II, sp_III, sp_J, sp_JI, sp_JJ, sp_R2, sp_R5I, sp_V, tt_sn]
  refine ⟨fun _ => rfl, fun hc => ?_⟩
  have hi : 4 * i + 3 < L := by
    apply Decidable.byContradiction
    intro q
    refine hc ?_
    by_cases h4 : 4 ≤ L
    · rw [show (4 : Int32) = nI 4 from rfl, pk_sub h4, nI_ltI (by omega) (by omega)]
      omega
    · refine Int32.lt_of_lt_of_le (pk_sneg (a := L) (b := 4) (by omega) (by omega)) ?_
      exact nI_pos' (by omega)
  refine B_body hW hi hL (fun y z M' hW' => ⟨i + 1, y, z, ?_, rfl, hW', by omega, by omega⟩)
  rw [show (4 : Int32) = nI 4 from rfl, nI_add, show 4 * i + 4 = 4 * (i + 1) by omega]
