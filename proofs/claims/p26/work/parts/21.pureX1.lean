/-! the class's trees: what its readers answer -/
def sumTo (f : Nat → Int32) : Nat → Int32
  | 0 => 0
  | n + 1 => sumTo f n + f n
def foldTo (g : Nat → Int32 → Int32) (a : Int32) : Nat → Int32
  | 0 => a
  | n + 1 => g n (foldTo g a n)
def bI (b : Bool) : Int32 := if b = true then 1 else 0
theorem bI_0 (b : Bool) : bI b = 0 ↔ b = false := by cases b <;> decide
theorem bI_t : bI true = 1 := rfl
theorem bI_f : bI false = 0 := rfl
theorem bI_or (b : Bool) : bI b = 0 ∨ bI b = 1 := by cases b <;> decide
theorem ge32 {j : Nat} (hj : j ≤ 32) : (32 : Int32) ≤ nI j ↔ j = 32 := by
  rw [show (32 : Int32) = nI 32 from rfl, nI_leI (by omega) (by omega)]
  omega
theorem gt32 {j : Nat} (hj : j ≤ 33) : (32 : Int32) < nI j ↔ j = 33 := by
  rw [show (32 : Int32) = nI 32 from rfl, nI_ltI (by omega) (by omega)]
  omega
theorem ge4 {j : Nat} (hj : j ≤ 4) : (4 : Int32) ≤ nI j ↔ j = 4 := by
  rw [show (4 : Int32) = nI 4 from rfl, nI_leI (by omega) (by omega)]
  omega
theorem ge10 {j : Nat} (hj : j ≤ 10) : (10 : Int32) ≤ nI j ↔ j = 10 := by
  rw [show (10 : Int32) = nI 10 from rfl, nI_leI (by omega) (by omega)]
  omega
def dGo (c : Ce) (s : Int32) : Nat → Int32 → Int32 → Int32
  | 0, _, _ => -1
  | n + 1, k, p => if p = 100 then k else if p = -1 then -1 else dGo c s n (k + 1) (pC c p s)
def dC (c : Ce) (x s : Int32) : Int32 := dGo c s 33 0 x
def f_depthOf (x s : Int32) (M : Mm) : Option Rs := some (.inl (some (.int (dC (M.1 0) x s)), M))
theorem p_depthOf (ad : Nat → Nat) (x0 x1 : Int32) (M : Mm) (r : Rs) (h : f_depthOf x0 x1 M = some r) : T_X1_depthOf_0 ad r (sp_II f_parentOf) [some (.ref (ad 1)), some (.int x0), some (.int x1), none, none] [] M := by
  cases h
  simp only [T_X1_depthOf_0, tt_c, tt_lc, tt_il, tt_ll, tt_al, tt_is, tt_lsv, tt_as, tt_inc, tt_add, tt_sub, tt_mul, tt_and, tt_ladd, tt_lmul, tt_i2l, tt_lcmp, tt_dupr, tt_dup2, tt_eq0, tt_lt0, tt_le0, tt_ge0, tt_gt0, tt_eq2, tt_lt2, tt_ge2, tt_gt2, tt_le2, tt_gr, tt_gi, tt_pi, tt_gl, tt_pl, tt_ia, tt_st, tt_ir, tt_zr, tt_lr, tt_vr, tt_cv, tt_cs, tt_max, tt_min, tt_rem, tt_xor, tt_len, tt_cp, tt_thr, tt_xv, tt_xs, k_sv, k_cl, k_kz, List.getElem?_cons_zero, List.getElem?_cons_succ, List.drop_succ_cons, List.drop_zero, List.take_succ_cons, List.take_zero, List.reverse_cons, List.reverse_nil, List.nil_append, List.cons_append, List.length_cons, List.length_nil, Option.toList_some, Option.toList_none, Nat.reduceAdd, Nat.reduceLeDiff, true_and, and_true, sp_I, sp_II, sp_III, sp_JI, sp_JJ, sp_R2, sp_R5I, sp_V]
  refine lp_of (σ := Nat × Int32) (fun q => q.1 ≤ 33 ∧ dGo (M.1 0) x1 (33 - q.1) (nI q.1) q.2 = dC (M.1 0) x0 x1) (fun q => [some (.ref (ad 1)), some (.int x0), some (.int x1), some (.int q.2), some (.int (nI q.1))]) (fun _ => M) (fun q => 33 - q.1) ?_ (0, x0) ⟨by omega, rfl⟩
  rintro k ⟨j, p⟩ ⟨hj, hd⟩ hk
  dsimp only at hj hd
  simp only [tt_c, tt_lc, tt_il, tt_ll, tt_al, tt_is, tt_lsv, tt_as, tt_inc, tt_add, tt_sub, tt_mul, tt_and, tt_ladd, tt_lmul, tt_i2l, tt_lcmp, tt_dupr, tt_dup2, tt_eq0, tt_lt0, tt_le0, tt_ge0, tt_gt0, tt_eq2, tt_lt2, tt_ge2, tt_gt2, tt_le2, tt_gr, tt_gi, tt_pi, tt_gl, tt_pl, tt_ia, tt_st, tt_ir, tt_zr, tt_lr, tt_vr, tt_cv, tt_cs, tt_max, tt_min, tt_rem, tt_xor, tt_len, tt_cp, tt_thr, tt_xv, tt_xs, k_sv, k_cl, k_kz, List.getElem?_cons_zero, List.getElem?_cons_succ, List.drop_succ_cons, List.drop_zero, List.take_succ_cons, List.take_zero, List.reverse_cons, List.reverse_nil, List.nil_append, List.cons_append, List.length_cons, List.length_nil, Option.toList_some, Option.toList_none, Nat.reduceAdd, Nat.reduceLeDiff, true_and, and_true, sp_I, sp_II, sp_III, sp_JI, sp_JJ, sp_R2, sp_R5I, sp_V, f_parentOf, gt32 hj]
  refine ⟨fun c1 => ?_, fun c1 => ?_⟩
  · subst c1
    rw [← hd]
    rfl
  · rw [show 33 - j = (32 - j) + 1 by omega, dGo] at hd
    refine ⟨fun c2 => ?_, fun c2 => ⟨fun c3 => ?_, fun c3 => ?_⟩⟩
    · rw [if_pos c2] at hd
      rw [hd]
    · rw [if_neg c2, if_pos c3] at hd
      rw [hd]
    · rw [if_neg c2, if_neg c3] at hd
      have := hk (j + 1, pC (M.1 0) p x1) ⟨by omega, by rw [show 33 - (j + 1) = 32 - j by omega, nI_succ]; exact hd⟩ (by dsimp only; omega)
      simpa [nI_succ] using this
def uGo (c : Ce) (s a : Int32) : Nat → Int32 → Bool
  | 0, _ => false
  | n + 1, p => if p = a then true else if p = 100 then false else if p = -1 then false else uGo c s a n (pC c p s)
def uC (c : Ce) (x a s : Int32) : Bool := uGo c s a 33 x
def f_isUnder (x a s : Int32) (M : Mm) : Option Rs := some (.inl (some (.int (bI (uC (M.1 0) x a s))), M))
theorem p_isUnder (ad : Nat → Nat) (x0 x1 x2 : Int32) (M : Mm) (r : Rs) (h : f_isUnder x0 x1 x2 M = some r) : T_X1_isUnder_0 ad r (sp_II f_parentOf) [some (.ref (ad 1)), some (.int x0), some (.int x1), some (.int x2), none, none] [] M := by
  cases h
  simp only [T_X1_isUnder_0, tt_c, tt_lc, tt_il, tt_ll, tt_al, tt_is, tt_lsv, tt_as, tt_inc, tt_add, tt_sub, tt_mul, tt_and, tt_ladd, tt_lmul, tt_i2l, tt_lcmp, tt_dupr, tt_dup2, tt_eq0, tt_lt0, tt_le0, tt_ge0, tt_gt0, tt_eq2, tt_lt2, tt_ge2, tt_gt2, tt_le2, tt_gr, tt_gi, tt_pi, tt_gl, tt_pl, tt_ia, tt_st, tt_ir, tt_zr, tt_lr, tt_vr, tt_cv, tt_cs, tt_max, tt_min, tt_rem, tt_xor, tt_len, tt_cp, tt_thr, tt_xv, tt_xs, k_sv, k_cl, k_kz, List.getElem?_cons_zero, List.getElem?_cons_succ, List.drop_succ_cons, List.drop_zero, List.take_succ_cons, List.take_zero, List.reverse_cons, List.reverse_nil, List.nil_append, List.cons_append, List.length_cons, List.length_nil, Option.toList_some, Option.toList_none, Nat.reduceAdd, Nat.reduceLeDiff, true_and, and_true, sp_I, sp_II, sp_III, sp_JI, sp_JJ, sp_R2, sp_R5I, sp_V]
  refine lp_of (σ := Nat × Int32) (fun q => q.1 ≤ 33 ∧ uGo (M.1 0) x2 x1 (33 - q.1) q.2 = uC (M.1 0) x0 x1 x2) (fun q => [some (.ref (ad 1)), some (.int x0), some (.int x1), some (.int x2), some (.int q.2), some (.int (nI q.1))]) (fun _ => M) (fun q => 33 - q.1) ?_ (0, x0) ⟨by omega, rfl⟩
  rintro k ⟨j, p⟩ ⟨hj, hd⟩ hk
  dsimp only at hj hd
  simp only [T_X1_isUnder_34, T_X1_isUnder_6, T_X1_isUnder_0, tt_c, tt_lc, tt_il, tt_ll, tt_al, tt_is, tt_lsv, tt_as, tt_inc, tt_add, tt_sub, tt_mul, tt_and, tt_ladd, tt_lmul, tt_i2l, tt_lcmp, tt_dupr, tt_dup2, tt_eq0, tt_lt0, tt_le0, tt_ge0, tt_gt0, tt_eq2, tt_lt2, tt_ge2, tt_gt2, tt_le2, tt_gr, tt_gi, tt_pi, tt_gl, tt_pl, tt_ia, tt_st, tt_ir, tt_zr, tt_lr, tt_vr, tt_cv, tt_cs, tt_max, tt_min, tt_rem, tt_xor, tt_len, tt_cp, tt_thr, tt_xv, tt_xs, k_sv, k_cl, k_kz, List.getElem?_cons_zero, List.getElem?_cons_succ, List.drop_succ_cons, List.drop_zero, List.take_succ_cons, List.take_zero, List.reverse_cons, List.reverse_nil, List.nil_append, List.cons_append, List.length_cons, List.length_nil, Option.toList_some, Option.toList_none, Nat.reduceAdd, Nat.reduceLeDiff, true_and, and_true, sp_I, sp_II, sp_III, sp_JI, sp_JJ, sp_R2, sp_R5I, sp_V, f_parentOf, gt32 hj]
  refine ⟨fun c1 => ?_, fun c1 => ?_⟩
  · subst c1
    rw [← hd]
    exact ⟨by simp, rfl⟩
  · rw [show 33 - j = (32 - j) + 1 by omega, uGo] at hd
    refine ⟨fun c2 => ?_, fun c2 => ⟨fun c3 => ?_, fun c3 => ⟨fun c4 => ?_, fun c4 => ?_⟩⟩⟩
    · rw [if_pos c2] at hd
      rw [← hd]
      exact ⟨by simp, rfl⟩
    · rw [if_neg c2, if_pos c3] at hd
      rw [← hd]
      exact ⟨by simp, rfl⟩
    · rw [if_neg c2, if_neg c3, if_pos c4] at hd
      rw [← hd]
      exact ⟨by simp, rfl⟩
    · rw [if_neg c2, if_neg c3, if_neg c4] at hd
      have := hk (j + 1, pC (M.1 0) p x2) ⟨by omega, by rw [show 33 - (j + 1) = 32 - j by omega]; exact hd⟩ (by dsimp only; omega)
      simpa [nI_succ] using this
def gGo (c : Ce) (s : Int32) : Nat → Int32 → Bool
  | 0, _ => false
  | n + 1, p => if p = 100 then true else if p = -1 then false else if vC c p 3 = 1 then false else gGo c s n (pC c p s)
def gC (c : Ce) (x s : Int32) : Bool := gGo c s 33 x
def f_getsPiece (x s : Int32) (M : Mm) : Option Rs := some (.inl (some (.int (bI (gC (M.1 0) x s))), M))
theorem p_getsPiece (ad : Nat → Nat) (x0 x1 : Int32) (M : Mm) (r : Rs) (h : f_getsPiece x0 x1 M = some r) : T_X1_getsPiece_0 ad r (sp_II f_parentOf) (sp_II f_value) [some (.ref (ad 1)), some (.int x0), some (.int x1), none, none] [] M := by
  cases h
  simp only [T_X1_getsPiece_0, tt_c, tt_lc, tt_il, tt_ll, tt_al, tt_is, tt_lsv, tt_as, tt_inc, tt_add, tt_sub, tt_mul, tt_and, tt_ladd, tt_lmul, tt_i2l, tt_lcmp, tt_dupr, tt_dup2, tt_eq0, tt_lt0, tt_le0, tt_ge0, tt_gt0, tt_eq2, tt_lt2, tt_ge2, tt_gt2, tt_le2, tt_gr, tt_gi, tt_pi, tt_gl, tt_pl, tt_ia, tt_st, tt_ir, tt_zr, tt_lr, tt_vr, tt_cv, tt_cs, tt_max, tt_min, tt_rem, tt_xor, tt_len, tt_cp, tt_thr, tt_xv, tt_xs, k_sv, k_cl, k_kz, List.getElem?_cons_zero, List.getElem?_cons_succ, List.drop_succ_cons, List.drop_zero, List.take_succ_cons, List.take_zero, List.reverse_cons, List.reverse_nil, List.nil_append, List.cons_append, List.length_cons, List.length_nil, Option.toList_some, Option.toList_none, Nat.reduceAdd, Nat.reduceLeDiff, true_and, and_true, sp_I, sp_II, sp_III, sp_JI, sp_JJ, sp_R2, sp_R5I, sp_V]
  refine lp_of (σ := Nat × Int32) (fun q => q.1 ≤ 33 ∧ gGo (M.1 0) x1 (33 - q.1) q.2 = gC (M.1 0) x0 x1) (fun q => [some (.ref (ad 1)), some (.int x0), some (.int x1), some (.int q.2), some (.int (nI q.1))]) (fun _ => M) (fun q => 33 - q.1) ?_ (0, x0) ⟨by omega, rfl⟩
  rintro k ⟨j, p⟩ ⟨hj, hd⟩ hk
  dsimp only at hj hd
  simp only [T_X1_getsPiece_38, T_X1_getsPiece_5, T_X1_getsPiece_0, tt_c, tt_lc, tt_il, tt_ll, tt_al, tt_is, tt_lsv, tt_as, tt_inc, tt_add, tt_sub, tt_mul, tt_and, tt_ladd, tt_lmul, tt_i2l, tt_lcmp, tt_dupr, tt_dup2, tt_eq0, tt_lt0, tt_le0, tt_ge0, tt_gt0, tt_eq2, tt_lt2, tt_ge2, tt_gt2, tt_le2, tt_gr, tt_gi, tt_pi, tt_gl, tt_pl, tt_ia, tt_st, tt_ir, tt_zr, tt_lr, tt_vr, tt_cv, tt_cs, tt_max, tt_min, tt_rem, tt_xor, tt_len, tt_cp, tt_thr, tt_xv, tt_xs, k_sv, k_cl, k_kz, List.getElem?_cons_zero, List.getElem?_cons_succ, List.drop_succ_cons, List.drop_zero, List.take_succ_cons, List.take_zero, List.reverse_cons, List.reverse_nil, List.nil_append, List.cons_append, List.length_cons, List.length_nil, Option.toList_some, Option.toList_none, Nat.reduceAdd, Nat.reduceLeDiff, true_and, and_true, sp_I, sp_II, sp_III, sp_JI, sp_JJ, sp_R2, sp_R5I, sp_V, f_parentOf, f_value, gt32 hj]
  refine ⟨fun c1 => ?_, fun c1 => ?_⟩
  · subst c1
    rw [← hd]
    exact ⟨by simp, rfl⟩
  · rw [show 33 - j = (32 - j) + 1 by omega, gGo] at hd
    refine ⟨fun c2 => ?_, fun c2 => ⟨fun c3 => ?_, fun c3 => ⟨fun c4 => ?_, fun c4 => ?_⟩⟩⟩
    · rw [if_pos c2] at hd
      rw [← hd]
      exact ⟨by simp, rfl⟩
    · rw [if_neg c2, if_pos c3] at hd
      rw [← hd]
      exact ⟨by simp, rfl⟩
    · rw [if_neg c2, if_neg c3, if_pos c4] at hd
      rw [← hd]
      exact ⟨by simp, rfl⟩
    · rw [if_neg c2, if_neg c3, if_neg c4] at hd
      have := hk (j + 1, pC (M.1 0) p x1) ⟨by omega, by rw [show 33 - (j + 1) = 32 - j by omega]; exact hd⟩ (by dsimp only; omega)
      simpa [nI_succ] using this
def pcC (c : Ce) (x : Int32) : Int32 := sumTo (fun s => bI (gC c x (nI s))) 4
def f_piecesOf (x : Int32) (M : Mm) : Option Rs := some (.inl (some (.int (pcC (M.1 0) x)), M))
theorem p_piecesOf (ad : Nat → Nat) (x0 : Int32) (M : Mm) (r : Rs) (h : f_piecesOf x0 M = some r) : T_X1_piecesOf_0 ad r (sp_II f_getsPiece) [some (.ref (ad 1)), some (.int x0), none, none] [] M := by
  cases h
  simp only [T_X1_piecesOf_0, tt_c, tt_lc, tt_il, tt_ll, tt_al, tt_is, tt_lsv, tt_as, tt_inc, tt_add, tt_sub, tt_mul, tt_and, tt_ladd, tt_lmul, tt_i2l, tt_lcmp, tt_dupr, tt_dup2, tt_eq0, tt_lt0, tt_le0, tt_ge0, tt_gt0, tt_eq2, tt_lt2, tt_ge2, tt_gt2, tt_le2, tt_gr, tt_gi, tt_pi, tt_gl, tt_pl, tt_ia, tt_st, tt_ir, tt_zr, tt_lr, tt_vr, tt_cv, tt_cs, tt_max, tt_min, tt_rem, tt_xor, tt_len, tt_cp, tt_thr, tt_xv, tt_xs, k_sv, k_cl, k_kz, List.getElem?_cons_zero, List.getElem?_cons_succ, List.drop_succ_cons, List.drop_zero, List.take_succ_cons, List.take_zero, List.reverse_cons, List.reverse_nil, List.nil_append, List.cons_append, List.length_cons, List.length_nil, Option.toList_some, Option.toList_none, Nat.reduceAdd, Nat.reduceLeDiff, true_and, and_true, sp_I, sp_II, sp_III, sp_JI, sp_JJ, sp_R2, sp_R5I, sp_V]
  refine lp_of (σ := Nat) (fun j => j ≤ 4) (fun j => [some (.ref (ad 1)), some (.int x0), some (.int (sumTo (fun s => bI (gC (M.1 0) x0 (nI s))) j)), some (.int (nI j))]) (fun _ => M) (fun j => 4 - j) ?_ 0 (by omega)
  intro k j hj hk
  simp only [T_X1_piecesOf_21, T_X1_piecesOf_4, T_X1_piecesOf_0, tt_c, tt_lc, tt_il, tt_ll, tt_al, tt_is, tt_lsv, tt_as, tt_inc, tt_add, tt_sub, tt_mul, tt_and, tt_ladd, tt_lmul, tt_i2l, tt_lcmp, tt_dupr, tt_dup2, tt_eq0, tt_lt0, tt_le0, tt_ge0, tt_gt0, tt_eq2, tt_lt2, tt_ge2, tt_gt2, tt_le2, tt_gr, tt_gi, tt_pi, tt_gl, tt_pl, tt_ia, tt_st, tt_ir, tt_zr, tt_lr, tt_vr, tt_cv, tt_cs, tt_max, tt_min, tt_rem, tt_xor, tt_len, tt_cp, tt_thr, tt_xv, tt_xs, k_sv, k_cl, k_kz, List.getElem?_cons_zero, List.getElem?_cons_succ, List.drop_succ_cons, List.drop_zero, List.take_succ_cons, List.take_zero, List.reverse_cons, List.reverse_nil, List.nil_append, List.cons_append, List.length_cons, List.length_nil, Option.toList_some, Option.toList_none, Nat.reduceAdd, Nat.reduceLeDiff, true_and, and_true, sp_I, sp_II, sp_III, sp_JI, sp_JJ, sp_R2, sp_R5I, sp_V, f_getsPiece, ge4 hj, bI_0]
  refine ⟨fun c1 => ?_, fun c1 => ⟨fun c2 => ?_, fun c2 => ?_⟩⟩
  · subst c1
    rfl
  · simpa [sumTo, nI_succ, c2, bI_t, bI_f] using hk (j + 1) (by omega) (by omega)
  · simp only [Bool.not_eq_false] at c2
    simpa [sumTo, nI_succ, c2, bI_t, bI_f] using hk (j + 1) (by omega) (by omega)
def chC (c : Ce) (a s : Int32) : Int32 := sumTo (fun x => if pC c (nI x) s = a then 1 else 0) 32
def f_childrenAt (a s : Int32) (M : Mm) : Option Rs := some (.inl (some (.int (chC (M.1 0) a s)), M))
theorem p_childrenAt (ad : Nat → Nat) (x0 x1 : Int32) (M : Mm) (r : Rs) (h : f_childrenAt x0 x1 M = some r) : T_X1_childrenAt_0 ad r (sp_II f_parentOf) [some (.ref (ad 1)), some (.int x0), some (.int x1), none, none] [] M := by
  cases h
  simp only [T_X1_childrenAt_0, tt_c, tt_lc, tt_il, tt_ll, tt_al, tt_is, tt_lsv, tt_as, tt_inc, tt_add, tt_sub, tt_mul, tt_and, tt_ladd, tt_lmul, tt_i2l, tt_lcmp, tt_dupr, tt_dup2, tt_eq0, tt_lt0, tt_le0, tt_ge0, tt_gt0, tt_eq2, tt_lt2, tt_ge2, tt_gt2, tt_le2, tt_gr, tt_gi, tt_pi, tt_gl, tt_pl, tt_ia, tt_st, tt_ir, tt_zr, tt_lr, tt_vr, tt_cv, tt_cs, tt_max, tt_min, tt_rem, tt_xor, tt_len, tt_cp, tt_thr, tt_xv, tt_xs, k_sv, k_cl, k_kz, List.getElem?_cons_zero, List.getElem?_cons_succ, List.drop_succ_cons, List.drop_zero, List.take_succ_cons, List.take_zero, List.reverse_cons, List.reverse_nil, List.nil_append, List.cons_append, List.length_cons, List.length_nil, Option.toList_some, Option.toList_none, Nat.reduceAdd, Nat.reduceLeDiff, true_and, and_true, sp_I, sp_II, sp_III, sp_JI, sp_JJ, sp_R2, sp_R5I, sp_V]
  refine lp_of (σ := Nat) (fun j => j ≤ 32) (fun j => [some (.ref (ad 1)), some (.int x0), some (.int x1), some (.int (sumTo (fun x => if pC (M.1 0) (nI x) x1 = x0 then 1 else 0) j)), some (.int (nI j))]) (fun _ => M) (fun j => 32 - j) ?_ 0 (by omega)
  intro k j hj hk
  simp only [T_X1_childrenAt_29, T_X1_childrenAt_5, T_X1_childrenAt_0, tt_c, tt_lc, tt_il, tt_ll, tt_al, tt_is, tt_lsv, tt_as, tt_inc, tt_add, tt_sub, tt_mul, tt_and, tt_ladd, tt_lmul, tt_i2l, tt_lcmp, tt_dupr, tt_dup2, tt_eq0, tt_lt0, tt_le0, tt_ge0, tt_gt0, tt_eq2, tt_lt2, tt_ge2, tt_gt2, tt_le2, tt_gr, tt_gi, tt_pi, tt_gl, tt_pl, tt_ia, tt_st, tt_ir, tt_zr, tt_lr, tt_vr, tt_cv, tt_cs, tt_max, tt_min, tt_rem, tt_xor, tt_len, tt_cp, tt_thr, tt_xv, tt_xs, k_sv, k_cl, k_kz, List.getElem?_cons_zero, List.getElem?_cons_succ, List.drop_succ_cons, List.drop_zero, List.take_succ_cons, List.take_zero, List.reverse_cons, List.reverse_nil, List.nil_append, List.cons_append, List.length_cons, List.length_nil, Option.toList_some, Option.toList_none, Nat.reduceAdd, Nat.reduceLeDiff, true_and, and_true, sp_I, sp_II, sp_III, sp_JI, sp_JJ, sp_R2, sp_R5I, sp_V, f_parentOf, ge32 hj]
  refine ⟨fun c1 => ?_, fun c1 => ⟨fun c2 => ?_, fun c2 => ?_⟩⟩
  · subst c1
    rfl
  · simpa [sumTo, nI_succ, c2] using hk (j + 1) (by omega) (by omega)
  · simpa [sumTo, nI_succ, c2] using hk (j + 1) (by omega) (by omega)
def caGo (c : Ce) (a s i : Int32) : Nat → Nat → Int32 → Int32
  | 0, _, _ => -1
  | n + 1, x, b => if pC c (nI x) s = a then (if b = i then nI x else caGo c a s i n (x + 1) (b + 1)) else caGo c a s i n (x + 1) b
def caC (c : Ce) (a s i : Int32) : Int32 := caGo c a s i 32 0 0
def f_childAt (a s i : Int32) (M : Mm) : Option Rs := some (.inl (some (.int (caC (M.1 0) a s i)), M))
theorem p_childAt (ad : Nat → Nat) (x0 x1 x2 : Int32) (M : Mm) (r : Rs) (h : f_childAt x0 x1 x2 M = some r) : T_X1_childAt_0 ad r (sp_II f_parentOf) [some (.ref (ad 1)), some (.int x0), some (.int x1), some (.int x2), none, none] [] M := by
  cases h
  simp only [T_X1_childAt_0, tt_c, tt_lc, tt_il, tt_ll, tt_al, tt_is, tt_lsv, tt_as, tt_inc, tt_add, tt_sub, tt_mul, tt_and, tt_ladd, tt_lmul, tt_i2l, tt_lcmp, tt_dupr, tt_dup2, tt_eq0, tt_lt0, tt_le0, tt_ge0, tt_gt0, tt_eq2, tt_lt2, tt_ge2, tt_gt2, tt_le2, tt_gr, tt_gi, tt_pi, tt_gl, tt_pl, tt_ia, tt_st, tt_ir, tt_zr, tt_lr, tt_vr, tt_cv, tt_cs, tt_max, tt_min, tt_rem, tt_xor, tt_len, tt_cp, tt_thr, tt_xv, tt_xs, k_sv, k_cl, k_kz, List.getElem?_cons_zero, List.getElem?_cons_succ, List.drop_succ_cons, List.drop_zero, List.take_succ_cons, List.take_zero, List.reverse_cons, List.reverse_nil, List.nil_append, List.cons_append, List.length_cons, List.length_nil, Option.toList_some, Option.toList_none, Nat.reduceAdd, Nat.reduceLeDiff, true_and, and_true, sp_I, sp_II, sp_III, sp_JI, sp_JJ, sp_R2, sp_R5I, sp_V]
  refine lp_of (σ := Nat × Int32) (fun q => q.1 ≤ 32 ∧ caGo (M.1 0) x0 x1 x2 (32 - q.1) q.1 q.2 = caC (M.1 0) x0 x1 x2) (fun q => [some (.ref (ad 1)), some (.int x0), some (.int x1), some (.int x2), some (.int q.2), some (.int (nI q.1))]) (fun _ => M) (fun q => 32 - q.1) ?_ (0, 0) ⟨by omega, rfl⟩
  rintro k ⟨j, p⟩ ⟨hj, hd⟩ hk
  dsimp only at hj hd
  simp only [T_X1_childAt_39, T_X1_childAt_6, T_X1_childAt_0, tt_c, tt_lc, tt_il, tt_ll, tt_al, tt_is, tt_lsv, tt_as, tt_inc, tt_add, tt_sub, tt_mul, tt_and, tt_ladd, tt_lmul, tt_i2l, tt_lcmp, tt_dupr, tt_dup2, tt_eq0, tt_lt0, tt_le0, tt_ge0, tt_gt0, tt_eq2, tt_lt2, tt_ge2, tt_gt2, tt_le2, tt_gr, tt_gi, tt_pi, tt_gl, tt_pl, tt_ia, tt_st, tt_ir, tt_zr, tt_lr, tt_vr, tt_cv, tt_cs, tt_max, tt_min, tt_rem, tt_xor, tt_len, tt_cp, tt_thr, tt_xv, tt_xs, k_sv, k_cl, k_kz, List.getElem?_cons_zero, List.getElem?_cons_succ, List.drop_succ_cons, List.drop_zero, List.take_succ_cons, List.take_zero, List.reverse_cons, List.reverse_nil, List.nil_append, List.cons_append, List.length_cons, List.length_nil, Option.toList_some, Option.toList_none, Nat.reduceAdd, Nat.reduceLeDiff, true_and, and_true, sp_I, sp_II, sp_III, sp_JI, sp_JJ, sp_R2, sp_R5I, sp_V, f_parentOf, ge32 hj]
  refine ⟨fun c1 => ?_, fun c1 => ?_⟩
  · subst c1
    rw [← hd]
    rfl
  · rw [show 32 - j = (31 - j) + 1 by omega, caGo] at hd
    refine ⟨fun c2 => ⟨fun c3 => ?_, fun c3 => ?_⟩, fun c2 => ?_⟩
    · rw [if_pos c2, if_pos c3] at hd
      rw [← hd]
    · rw [if_pos c2, if_neg c3] at hd
      have := hk (j + 1, p + 1) ⟨by omega, by rw [show 32 - (j + 1) = 31 - j by omega]; exact hd⟩ (by dsimp only; omega)
      simpa [nI_succ] using this
    · rw [if_neg c2] at hd
      have := hk (j + 1, p) ⟨by omega, by rw [show 32 - (j + 1) = 31 - j by omega]; exact hd⟩ (by dsimp only; omega)
      simpa [nI_succ] using this
def stC (c : Ce) (a s : Int32) : Int32 := sumTo (fun x => bI (uC c (nI x) a s)) 32
def f_subtreeSize (a s : Int32) (M : Mm) : Option Rs := some (.inl (some (.int (stC (M.1 0) a s)), M))
theorem p_subtreeSize (ad : Nat → Nat) (x0 x1 : Int32) (M : Mm) (r : Rs) (h : f_subtreeSize x0 x1 M = some r) : T_X1_subtreeSize_0 ad r (sp_III f_isUnder) [some (.ref (ad 1)), some (.int x0), some (.int x1), none, none] [] M := by
  cases h
  simp only [T_X1_subtreeSize_0, tt_c, tt_lc, tt_il, tt_ll, tt_al, tt_is, tt_lsv, tt_as, tt_inc, tt_add, tt_sub, tt_mul, tt_and, tt_ladd, tt_lmul, tt_i2l, tt_lcmp, tt_dupr, tt_dup2, tt_eq0, tt_lt0, tt_le0, tt_ge0, tt_gt0, tt_eq2, tt_lt2, tt_ge2, tt_gt2, tt_le2, tt_gr, tt_gi, tt_pi, tt_gl, tt_pl, tt_ia, tt_st, tt_ir, tt_zr, tt_lr, tt_vr, tt_cv, tt_cs, tt_max, tt_min, tt_rem, tt_xor, tt_len, tt_cp, tt_thr, tt_xv, tt_xs, k_sv, k_cl, k_kz, List.getElem?_cons_zero, List.getElem?_cons_succ, List.drop_succ_cons, List.drop_zero, List.take_succ_cons, List.take_zero, List.reverse_cons, List.reverse_nil, List.nil_append, List.cons_append, List.length_cons, List.length_nil, Option.toList_some, Option.toList_none, Nat.reduceAdd, Nat.reduceLeDiff, true_and, and_true, sp_I, sp_II, sp_III, sp_JI, sp_JJ, sp_R2, sp_R5I, sp_V]
  refine lp_of (σ := Nat) (fun j => j ≤ 32) (fun j => [some (.ref (ad 1)), some (.int x0), some (.int x1), some (.int (sumTo (fun x => bI (uC (M.1 0) (nI x) x0 x1)) j)), some (.int (nI j))]) (fun _ => M) (fun j => 32 - j) ?_ 0 (by omega)
  intro k j hj hk
  simp only [T_X1_subtreeSize_26, T_X1_subtreeSize_5, T_X1_subtreeSize_0, tt_c, tt_lc, tt_il, tt_ll, tt_al, tt_is, tt_lsv, tt_as, tt_inc, tt_add, tt_sub, tt_mul, tt_and, tt_ladd, tt_lmul, tt_i2l, tt_lcmp, tt_dupr, tt_dup2, tt_eq0, tt_lt0, tt_le0, tt_ge0, tt_gt0, tt_eq2, tt_lt2, tt_ge2, tt_gt2, tt_le2, tt_gr, tt_gi, tt_pi, tt_gl, tt_pl, tt_ia, tt_st, tt_ir, tt_zr, tt_lr, tt_vr, tt_cv, tt_cs, tt_max, tt_min, tt_rem, tt_xor, tt_len, tt_cp, tt_thr, tt_xv, tt_xs, k_sv, k_cl, k_kz, List.getElem?_cons_zero, List.getElem?_cons_succ, List.drop_succ_cons, List.drop_zero, List.take_succ_cons, List.take_zero, List.reverse_cons, List.reverse_nil, List.nil_append, List.cons_append, List.length_cons, List.length_nil, Option.toList_some, Option.toList_none, Nat.reduceAdd, Nat.reduceLeDiff, true_and, and_true, sp_I, sp_II, sp_III, sp_JI, sp_JJ, sp_R2, sp_R5I, sp_V, f_isUnder, ge32 hj, bI_0]
  refine ⟨fun c1 => ?_, fun c1 => ⟨fun c2 => ?_, fun c2 => ?_⟩⟩
  · subst c1
    rfl
  · simpa [sumTo, nI_succ, c2, bI_t, bI_f] using hk (j + 1) (by omega) (by omega)
  · simp only [Bool.not_eq_false] at c2
    simpa [sumTo, nI_succ, c2, bI_t, bI_f] using hk (j + 1) (by omega) (by omega)
def cbC (c : Ce) (x s : Int32) : Bool := decide (0 < vC c x 1) && (decide (vC c x 5 = 0) || decide (vC c x 6 = s))
def f_canBeInner (x s : Int32) (M : Mm) : Option Rs := some (.inl (some (.int (bI (cbC (M.1 0) x s))), M))
theorem p_canBeInner (ad : Nat → Nat) (x0 x1 : Int32) (M : Mm) (r : Rs) (h : f_canBeInner x0 x1 M = some r) : T_X1_canBeInner_0 ad r (sp_II f_value) [some (.ref (ad 1)), some (.int x0), some (.int x1)] [] M := by
  cases h
  simp only [T_X1_canBeInner_43, T_X1_canBeInner_38, T_X1_canBeInner_42, T_X1_canBeInner_0, tt_c, tt_lc, tt_il, tt_ll, tt_al, tt_is, tt_lsv, tt_as, tt_inc, tt_add, tt_sub, tt_mul, tt_and, tt_ladd, tt_lmul, tt_i2l, tt_lcmp, tt_dupr, tt_dup2, tt_eq0, tt_lt0, tt_le0, tt_ge0, tt_gt0, tt_eq2, tt_lt2, tt_ge2, tt_gt2, tt_le2, tt_gr, tt_gi, tt_pi, tt_gl, tt_pl, tt_ia, tt_st, tt_ir, tt_zr, tt_lr, tt_vr, tt_cv, tt_cs, tt_max, tt_min, tt_rem, tt_xor, tt_len, tt_cp, tt_thr, tt_xv, tt_xs, k_sv, k_cl, k_kz, List.getElem?_cons_zero, List.getElem?_cons_succ, List.drop_succ_cons, List.drop_zero, List.take_succ_cons, List.take_zero, List.reverse_cons, List.reverse_nil, List.nil_append, List.cons_append, List.length_cons, List.length_nil, Option.toList_some, Option.toList_none, Nat.reduceAdd, Nat.reduceLeDiff, true_and, and_true, sp_I, sp_II, sp_III, sp_JI, sp_JJ, sp_R2, sp_R5I, sp_V, f_value]
  refine ⟨fun c1 => ?_, fun c1 => ⟨fun c2 => ?_, fun c2 => ⟨fun c3 => ?_, fun c3 => ?_⟩⟩⟩
  · have c1' : ¬ 0 < vC (M.1 0) x0 1 := Int32.not_lt.mpr c1
    simp [cbC, bI, c1']
  · have c1' : 0 < vC (M.1 0) x0 1 := Int32.not_le.mp c1
    simp [cbC, bI, c1', c2]
  · have c1' : 0 < vC (M.1 0) x0 1 := Int32.not_le.mp c1
    simp [cbC, bI, c1', c2, c3]
  · have c1' : 0 < vC (M.1 0) x0 1 := Int32.not_le.mp c1
    simp [cbC, bI, c1', c2, c3]
