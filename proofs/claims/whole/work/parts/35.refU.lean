/-! the reference in numbers: what it keeps and takes back -/
def k_r3 (M : Mm) (S : Re) : Mm := (fun b => if b = 3 then S else M.1 b, M.2)
theorem k_r3_3 (M : Mm) (S : Re) : (k_r3 M S).1 3 = S := rfl
theorem k_r3_2 (M : Mm) (S : Re) : (k_r3 M S).1 2 = M.1 2 := rfl
theorem k_r3_4 (M : Mm) (S : Re) : (k_r3 M S).1 4 = M.1 4 := rfl
theorem k_r3_s (M : Mm) : k_r3 M (M.1 3) = M := by
  obtain ⟨a, b⟩ := M
  unfold k_r3
  congr 1
  funext b
  by_cases h : b = 3 <;> simp [h]
theorem k_up3 (M : Mm) (S : Re) (j : Nat) (v : Int32) : k_up (k_r3 M S) 3 j v = k_r3 M (upd S j v) := by
  unfold k_r3 k_up
  congr 1
  funext b
  by_cases h : b = 3 <;> simp [h]
theorem k_up4_2 (M : Mm) (j : Nat) (v : Int32) : (k_up M 4 j v).1 2 = M.1 2 := rfl
theorem k_up4_3 (M : Mm) (j : Nat) (v : Int32) : (k_up M 4 j v).1 3 = M.1 3 := rfl
theorem k_up4_4 (M : Mm) (j : Nat) (v : Int32) : (k_up M 4 j v).1 4 j = v := by simp [k_up, upd]
def wrK (S m : Re) (n k : Nat) : Re := fun j => if 395 * n ≤ j ∧ j < 395 * n + k then m (j - 395 * n) else S j
def shK (S : Re) (k : Nat) : Re := fun j => if j < k then S (j + 395) else S j
theorem wrK_0 (S m : Re) (n : Nat) : wrK S m n 0 = S := by
  funext j
  unfold wrK
  rw [if_neg (by omega)]
theorem wrK_s (S m : Re) (n k : Nat) : upd (wrK S m n k) (395 * n + k) (m k) = wrK S m n (k + 1) := by
  funext j
  simp only [wrK, upd]
  by_cases h : j = 395 * n + k
  · subst h
    rw [if_pos rfl, if_pos (by omega)]
    congr 1
    omega
  · rw [if_neg h]
    by_cases h1 : 395 * n ≤ j ∧ j < 395 * n + k
    · rw [if_pos h1, if_pos (by omega)]
    · rw [if_neg h1, if_neg (by omega)]
theorem shK_0 (S : Re) : shK S 0 = S := by
  funext j
  unfold shK
  rw [if_neg (by omega)]
theorem shK_s (S : Re) (k : Nat) : upd (shK S k) k (shK S k (k + 395)) = shK S (k + 1) := by
  funext j
  simp only [shK, upd]
  by_cases h : j = k
  · subst h
    rw [if_pos rfl, if_neg (by omega), if_pos (by omega)]
  · rw [if_neg h]
    by_cases h1 : j < k
    · rw [if_pos h1, if_pos (by omega)]
    · rw [if_neg h1, if_neg (by omega)]
theorem ge395 {j : Nat} (hj : j ≤ 395) : (395 : Int32) ≤ nI j ↔ j = 395 := by
  rw [show (395 : Int32) = nI 395 from rfl, nI_leI (by omega) (by omega)]
  omega
theorem ge1185 {j : Nat} (hj : j ≤ 1185) : (1185 : Int32) ≤ nI j ↔ j = 1185 := by
  rw [show (1185 : Int32) = nI 1185 from rfl, nI_leI (by omega) (by omega)]
  omega
def keN (M : Mm) (n : Nat) : Mm := k_up (k_r3 M (wrK (M.1 3) (M.1 2) n 395)) 4 2 (nI (n + 1))
def keS (M : Mm) : Mm := k_up (k_r3 M (shK (M.1 3) 1185)) 4 2 (nI 3)
def keM (M : Mm) : Mm := if M.1 4 2 = 4 then keN (keS M) 3 else keN M (M.1 4 2).toNatClampNeg
theorem pr_keep_t (ad : Nat → Nat) (M : Mm) (n : Nat) (hn : n ≤ 3) (h2 : M.1 4 2 = nI n) (o : Option Value) : T_X4_keep_49 ad (.inl (none, keN M n)) [some (.ref (ad 6)), o] [] M := by
  simp only [T_X4_keep_49, tt_c, tt_lc, tt_il, tt_ll, tt_al, tt_is, tt_lsv, tt_as, tt_inc, tt_add, tt_sub, tt_mul, tt_and, tt_ladd, tt_lmul, tt_i2l, tt_lcmp, tt_dupr, tt_dup2, tt_eq0, tt_lt0, tt_le0, tt_ge0, tt_gt0, tt_eq2, tt_lt2, tt_ge2, tt_gt2, tt_le2, tt_gr, tt_gi, tt_pi, tt_gl, tt_pl, tt_ia, tt_st, tt_ir, tt_zr, tt_lr, tt_vr, tt_cv, tt_cs, tt_max, tt_min, tt_rem, tt_xor, tt_len, tt_cp, tt_thr, tt_xv, tt_xs, k_sv, k_cl, k_kz, List.getElem?_cons_zero, List.getElem?_cons_succ, List.drop_succ_cons, List.drop_zero, List.take_succ_cons, List.take_zero, List.reverse_cons, List.reverse_nil, List.nil_append, List.cons_append, List.length_cons, List.length_nil, Option.toList_some, Option.toList_none, Nat.reduceAdd, Nat.reduceLeDiff, true_and, and_true, sp_I, sp_II, sp_III, sp_J, sp_JI, sp_JJ, sp_R2, sp_R5I, sp_V]
  refine k_eqM (show k_r3 M (wrK (M.1 3) (M.1 2) n 0) = M by rw [wrK_0, k_r3_s]) (lp_of (σ := Nat) (fun k => k ≤ 395) (fun k => [some (.ref (ad 6)), some (.int (nI k))]) (fun k => k_r3 M (wrK (M.1 3) (M.1 2) n k)) (fun k => 395 - k) ?_ 0 (by omega))
  intro k j hj hk
  simp only [T_X4_keep_51, tt_c, tt_lc, tt_il, tt_ll, tt_al, tt_is, tt_lsv, tt_as, tt_inc, tt_add, tt_sub, tt_mul, tt_and, tt_ladd, tt_lmul, tt_i2l, tt_lcmp, tt_dupr, tt_dup2, tt_eq0, tt_lt0, tt_le0, tt_ge0, tt_gt0, tt_eq2, tt_lt2, tt_ge2, tt_gt2, tt_le2, tt_gr, tt_gi, tt_pi, tt_gl, tt_pl, tt_ia, tt_st, tt_ir, tt_zr, tt_lr, tt_vr, tt_cv, tt_cs, tt_max, tt_min, tt_rem, tt_xor, tt_len, tt_cp, tt_thr, tt_xv, tt_xs, k_sv, k_cl, k_kz, List.getElem?_cons_zero, List.getElem?_cons_succ, List.drop_succ_cons, List.drop_zero, List.take_succ_cons, List.take_zero, List.reverse_cons, List.reverse_nil, List.nil_append, List.cons_append, List.length_cons, List.length_nil, Option.toList_some, Option.toList_none, Nat.reduceAdd, Nat.reduceLeDiff, true_and, and_true, sp_I, sp_II, sp_III, sp_J, sp_JI, sp_JJ, sp_R2, sp_R5I, sp_V, ge395 hj, k_r3_4, k_r3_2, h2]
  refine ⟨fun c1 => ?_, fun c1 => ⟨vp_in_nI (by omega) (by omega), ?_, ?_⟩⟩
  · subst c1
    rw [nI_1]
    rfl
  · rw [show (395 : Int32) = nI 395 from rfl, pk_mul, nI_add]
    exact vp_in_nI (by omega) (by omega)
  · rw [show (395 : Int32) = nI 395 from rfl, pk_mul, nI_add, nI_clamp (by omega), nI_clamp (by omega), k_up3, wrK_s, nI_1]
    exact hk (j + 1) (by omega) (by omega)
def fr_keep (M : Mm) : Option Rs := if bR (M.1 4 2) 0 4 = false then some (.inl (none, keM M)) else none
theorem pr_keep (ad : Nat → Nat) (M : Mm) (r : Rs) (h : fr_keep M = some r) : T_X4_keep_0 ad r [some (.ref (ad 6)), none] [] M := by
  unfold fr_keep at h
  split at h
  · next hg =>
    cases h
    obtain ⟨n, hn, h2⟩ := bR_of (n := 4) (by omega) hg
    simp only [T_X4_keep_0, tt_c, tt_lc, tt_il, tt_ll, tt_al, tt_is, tt_lsv, tt_as, tt_inc, tt_add, tt_sub, tt_mul, tt_and, tt_ladd, tt_lmul, tt_i2l, tt_lcmp, tt_dupr, tt_dup2, tt_eq0, tt_lt0, tt_le0, tt_ge0, tt_gt0, tt_eq2, tt_lt2, tt_ge2, tt_gt2, tt_le2, tt_gr, tt_gi, tt_pi, tt_gl, tt_pl, tt_ia, tt_st, tt_ir, tt_zr, tt_lr, tt_vr, tt_cv, tt_cs, tt_max, tt_min, tt_rem, tt_xor, tt_len, tt_cp, tt_thr, tt_xv, tt_xs, k_sv, k_cl, k_kz, List.getElem?_cons_zero, List.getElem?_cons_succ, List.drop_succ_cons, List.drop_zero, List.take_succ_cons, List.take_zero, List.reverse_cons, List.reverse_nil, List.nil_append, List.cons_append, List.length_cons, List.length_nil, Option.toList_some, Option.toList_none, Nat.reduceAdd, Nat.reduceLeDiff, true_and, and_true, sp_I, sp_II, sp_III, sp_J, sp_JI, sp_JJ, sp_R2, sp_R5I, sp_V]
    refine ⟨fun c0 => ?_, fun c0 => ?_⟩
    · rw [keM, if_pos c0]
      refine k_eqM (show k_r3 M (shK (M.1 3) 0) = M by rw [shK_0, k_r3_s]) (lp_of (σ := Nat) (fun k => k ≤ 1185) (fun k => [some (.ref (ad 6)), some (.int (nI k))]) (fun k => k_r3 M (shK (M.1 3) k)) (fun k => 1185 - k) ?_ 0 (by omega))
      intro k j hj hk
      simp only [T_X4_keep_10, tt_c, tt_lc, tt_il, tt_ll, tt_al, tt_is, tt_lsv, tt_as, tt_inc, tt_add, tt_sub, tt_mul, tt_and, tt_ladd, tt_lmul, tt_i2l, tt_lcmp, tt_dupr, tt_dup2, tt_eq0, tt_lt0, tt_le0, tt_ge0, tt_gt0, tt_eq2, tt_lt2, tt_ge2, tt_gt2, tt_le2, tt_gr, tt_gi, tt_pi, tt_gl, tt_pl, tt_ia, tt_st, tt_ir, tt_zr, tt_lr, tt_vr, tt_cv, tt_cs, tt_max, tt_min, tt_rem, tt_xor, tt_len, tt_cp, tt_thr, tt_xv, tt_xs, k_sv, k_cl, k_kz, List.getElem?_cons_zero, List.getElem?_cons_succ, List.drop_succ_cons, List.drop_zero, List.take_succ_cons, List.take_zero, List.reverse_cons, List.reverse_nil, List.nil_append, List.cons_append, List.length_cons, List.length_nil, Option.toList_some, Option.toList_none, Nat.reduceAdd, Nat.reduceLeDiff, true_and, and_true, sp_I, sp_II, sp_III, sp_J, sp_JI, sp_JJ, sp_R2, sp_R5I, sp_V, ge1185 hj, k_r3_4, k_r3_3, c0]
      refine ⟨fun c1 => ?_, fun c1 => ⟨?_, vp_in_nI (by omega) (by omega), ?_⟩⟩
      · subst c1
        exact pr_keep_t ad (keS M) 3 (by omega) (k_up4_4 _ _ _) _
      · rw [show (395 : Int32) = nI 395 from rfl, nI_add]
        exact vp_in_nI (by omega) (by omega)
      · rw [show (395 : Int32) = nI 395 from rfl, nI_add, nI_clamp (by omega), nI_clamp (by omega), k_up3, shK_s, nI_1]
        exact hk (j + 1) (by omega) (by omega)
    · rw [keM, if_neg c0]
      have h3 : n ≤ 3 := by
        have : ¬ n = 4 := by
          rintro rfl
          exact c0 h2
        omega
      rw [h2, nI_clamp (by omega)]
      exact pr_keep_t ad M n h3 h2 none
  · cases h
def rdK (S m : Re) (n k : Nat) : Re := fun j => if j < k then S (395 * n + j) else m j
theorem rdK_0 (S m : Re) (n : Nat) : rdK S m n 0 = m := by
  funext j
  unfold rdK
  rw [if_neg (by omega)]
theorem rdK_s (S m : Re) (n k : Nat) : upd (rdK S m n k) k (S (395 * n + k)) = rdK S m n (k + 1) := by
  funext j
  simp only [rdK, upd]
  by_cases h : j = k
  · subst h
    rw [if_pos rfl, if_pos (by omega)]
  · rw [if_neg h]
    by_cases h1 : j < k
    · rw [if_pos h1, if_pos (by omega)]
    · rw [if_neg h1, if_neg (by omega)]
def unN (M : Mm) (n : Nat) : Mm := k_r2 (k_up (kc M 0) 4 2 (nI n)) (rdK (M.1 3) (M.1 2) n 395)
def fr_undo (M : Mm) : Option Rs := if bR (M.1 4 2) 0 4 = false then (if M.1 4 2 = 0 then some (.inl (some (.int 0), kc M 1)) else some (.inl (some (.int (M.1 4 2 - 1)), unN M (M.1 4 2 - 1).toNatClampNeg))) else none
theorem pr_undo (ad : Nat → Nat) (M : Mm) (r : Rs) (h : fr_undo M = some r) : T_X4_undo_0 ad r [some (.ref (ad 6)), none] [] M := by
  unfold fr_undo at h
  split at h
  · next hg =>
    obtain ⟨n, hn, h2⟩ := bR_of (n := 4) (by omega) hg
    split at h
    · next c0 =>
      cases h
      simp only [T_X4_undo_0, T_X4_undo_13, tt_c, tt_lc, tt_il, tt_ll, tt_al, tt_is, tt_lsv, tt_as, tt_inc, tt_add, tt_sub, tt_mul, tt_and, tt_ladd, tt_lmul, tt_i2l, tt_lcmp, tt_dupr, tt_dup2, tt_eq0, tt_lt0, tt_le0, tt_ge0, tt_gt0, tt_eq2, tt_lt2, tt_ge2, tt_gt2, tt_le2, tt_gr, tt_gi, tt_pi, tt_gl, tt_pl, tt_ia, tt_st, tt_ir, tt_zr, tt_lr, tt_vr, tt_cv, tt_cs, tt_max, tt_min, tt_rem, tt_xor, tt_len, tt_cp, tt_thr, tt_xv, tt_xs, k_sv, k_cl, k_kz, List.getElem?_cons_zero, List.getElem?_cons_succ, List.drop_succ_cons, List.drop_zero, List.take_succ_cons, List.take_zero, List.reverse_cons, List.reverse_nil, List.nil_append, List.cons_append, List.length_cons, List.length_nil, Option.toList_some, Option.toList_none, Nat.reduceAdd, Nat.reduceLeDiff, true_and, and_true, sp_I, sp_II, sp_III, sp_J, sp_JI, sp_JJ, sp_R2, sp_R5I, sp_V, kc_def, c0, kc_43, kc_1, kc_42, kc_L, z_10, z_20, z_30, z_00, bI_t, bI_f, if_true, if_false, Bool.false_eq_true, Bool.true_eq_false, not_true_eq_false, not_false_eq_true, false_implies, true_implies, and_self, true_and, and_true, and_false, false_and, reduceCtorEq]
    · next c0 =>
      cases h
      obtain ⟨n, rfl⟩ : ∃ n', n = n' + 1 := ⟨n - 1, by
        have : ¬ n = 0 := by
          rintro rfl
          exact c0 h2
        omega⟩
      simp only [T_X4_undo_0, T_X4_undo_13, tt_c, tt_lc, tt_il, tt_ll, tt_al, tt_is, tt_lsv, tt_as, tt_inc, tt_add, tt_sub, tt_mul, tt_and, tt_ladd, tt_lmul, tt_i2l, tt_lcmp, tt_dupr, tt_dup2, tt_eq0, tt_lt0, tt_le0, tt_ge0, tt_gt0, tt_eq2, tt_lt2, tt_ge2, tt_gt2, tt_le2, tt_gr, tt_gi, tt_pi, tt_gl, tt_pl, tt_ia, tt_st, tt_ir, tt_zr, tt_lr, tt_vr, tt_cv, tt_cs, tt_max, tt_min, tt_rem, tt_xor, tt_len, tt_cp, tt_thr, tt_xv, tt_xs, k_sv, k_cl, k_kz, List.getElem?_cons_zero, List.getElem?_cons_succ, List.drop_succ_cons, List.drop_zero, List.take_succ_cons, List.take_zero, List.reverse_cons, List.reverse_nil, List.nil_append, List.cons_append, List.length_cons, List.length_nil, Option.toList_some, Option.toList_none, Nat.reduceAdd, Nat.reduceLeDiff, true_and, and_true, sp_I, sp_II, sp_III, sp_J, sp_JI, sp_JJ, sp_R2, sp_R5I, sp_V, kc_def, c0, kc_43, kc_1, kc_42, kc_L, z_10, z_20, z_30, z_00, bI_t, bI_f, if_true, if_false, Bool.false_eq_true, Bool.true_eq_false, not_true_eq_false, not_false_eq_true, false_implies, true_implies, and_self, true_and, and_true, and_false, false_and, reduceCtorEq]
      rw [h2, nI_pred, nI_clamp (by omega)]
      refine k_eqM (show k_r2 (k_up (kc M 0) 4 2 (nI n)) (rdK (M.1 3) (M.1 2) n 0) = _ by rw [rdK_0]; exact k_r2_s (k_up (kc M 0) 4 2 (nI n))) (lp_of (σ := Nat) (fun k => k ≤ 395) (fun k => [some (.ref (ad 6)), some (.int (nI k))]) (fun k => k_r2 (k_up (kc M 0) 4 2 (nI n)) (rdK (M.1 3) (M.1 2) n k)) (fun k => 395 - k) ?_ 0 (by omega))
      intro k j hj hk
      have e4 : ∀ S, (k_r2 (k_up (kc M 0) 4 2 (nI n)) S).1 4 2 = nI n := fun S => (show _ = (k_up (kc M 0) 4 2 (nI n)).1 4 2 from rfl).trans (k_up4_4 _ _ _)
      have e3 : ∀ S, (k_r2 (k_up (kc M 0) 4 2 (nI n)) S).1 3 = M.1 3 := fun S => rfl
      simp only [T_X4_undo_37, tt_c, tt_lc, tt_il, tt_ll, tt_al, tt_is, tt_lsv, tt_as, tt_inc, tt_add, tt_sub, tt_mul, tt_and, tt_ladd, tt_lmul, tt_i2l, tt_lcmp, tt_dupr, tt_dup2, tt_eq0, tt_lt0, tt_le0, tt_ge0, tt_gt0, tt_eq2, tt_lt2, tt_ge2, tt_gt2, tt_le2, tt_gr, tt_gi, tt_pi, tt_gl, tt_pl, tt_ia, tt_st, tt_ir, tt_zr, tt_lr, tt_vr, tt_cv, tt_cs, tt_max, tt_min, tt_rem, tt_xor, tt_len, tt_cp, tt_thr, tt_xv, tt_xs, k_sv, k_cl, k_kz, List.getElem?_cons_zero, List.getElem?_cons_succ, List.drop_succ_cons, List.drop_zero, List.take_succ_cons, List.take_zero, List.reverse_cons, List.reverse_nil, List.nil_append, List.cons_append, List.length_cons, List.length_nil, Option.toList_some, Option.toList_none, Nat.reduceAdd, Nat.reduceLeDiff, true_and, and_true, sp_I, sp_II, sp_III, sp_J, sp_JI, sp_JJ, sp_R2, sp_R5I, sp_V, ge395 hj, e4, e3]
      refine ⟨fun c1 => ?_, fun c1 => ⟨?_, vp_in_nI (by omega) (by omega), ?_⟩⟩
      · subst c1
        rfl
      · rw [show (395 : Int32) = nI 395 from rfl, pk_mul, nI_add]
        exact vp_in_nI (by omega) (by omega)
      · rw [show (395 : Int32) = nI 395 from rfl, pk_mul, nI_add, nI_clamp (by omega), nI_clamp (by omega), k_up2, k_r2_2, k_r2_r, rdK_s, nI_1]
        exact hk (j + 1) (by omega) (by omega)
  · cases h
theorem keM_2 (M : Mm) : (keM M).1 2 = M.1 2 := by
  unfold keM
  split <;> rfl
/-- a change: the state is kept first -/
def qK (cd : Int32) (o : Option (Int32 × Re)) (M : Mm) : Option Rs := if cd = 0 then (if bR (M.1 4 2) 0 4 = false then o.map (fun q => .inl (some (.int q.1), k_r2 (keM (kc M 0)) q.2)) else none) else some (.inl (some (.int 0), kc M cd))
theorem qK_0 {o : Option (Int32 × Re)} {M : Mm} {r : Rs} (h : qK 0 o M = some r) : bR (M.1 4 2) 0 4 = false ∧ ∃ v m, o = some (v, m) ∧ r = .inl (some (.int v), k_r2 (keM (kc M 0)) m) := by
  unfold qK at h
  rw [if_pos rfl] at h
  split at h
  · next hg =>
    obtain ⟨⟨v, m⟩, hq, rfl⟩ := Option.map_eq_some_iff.mp h
    exact ⟨hg, v, m, hq, rfl⟩
  · cases h
theorem qK_n {cd : Int32} (hc : ¬ cd = 0) {o : Option (Int32 × Re)} {M : Mm} {r : Rs} (h : qK cd o M = some r) : r = .inl (some (.int 0), kc M cd) := by
  unfold qK at h
  rw [if_neg hc] at h
  cases h
  rfl
theorem qK_1 {o : Option (Int32 × Re)} {M : Mm} {r : Rs} (h : qK 1 o M = some r) : r = .inl (some (.int 0), kc M 1) := qK_n (by decide) h
theorem qK_2 {o : Option (Int32 × Re)} {M : Mm} {r : Rs} (h : qK 2 o M = some r) : r = .inl (some (.int 0), kc M 2) := qK_n (by decide) h
theorem qK_3 {o : Option (Int32 × Re)} {M : Mm} {r : Rs} (h : qK 3 o M = some r) : r = .inl (some (.int 0), kc M 3) := qK_n (by decide) h
def fr_setDelay (b : Int32) (M : Mm) : Option Rs := qK (if bR b 1 20 = true then 1 else 0) (some (M.1 2 1, upd (M.1 2) 1 b)) M
theorem pr_setDelay (ad : Nat → Nat) (x0 : Int32) (M : Mm) (r : Rs) (h : fr_setDelay x0 M = some r) : T_X4_setDelay_0 ad r (sp_III fr_in) (sp_V fr_keep) [some (.ref (ad 6)), some (.int x0), none] [] M := by
  unfold fr_setDelay at h
  cases hs : bR x0 1 20 <;> simp only [hs, kc_43, kc_1, kc_42, kc_L, z_10, z_20, z_30, z_00, bI_t, bI_f, if_true, if_false, Bool.false_eq_true, Bool.true_eq_false, not_true_eq_false, not_false_eq_true, false_implies, true_implies, and_self, true_and, and_true, and_false, false_and, reduceCtorEq] at h
  · obtain ⟨hg, v, m, hq, h0⟩ := qK_0 h
    cases hq
    subst h0
    simp only [T_X4_setDelay_16, T_X4_setDelay_0, tt_c, tt_lc, tt_il, tt_ll, tt_al, tt_is, tt_lsv, tt_as, tt_inc, tt_add, tt_sub, tt_mul, tt_and, tt_ladd, tt_lmul, tt_i2l, tt_lcmp, tt_dupr, tt_dup2, tt_eq0, tt_lt0, tt_le0, tt_ge0, tt_gt0, tt_eq2, tt_lt2, tt_ge2, tt_gt2, tt_le2, tt_gr, tt_gi, tt_pi, tt_gl, tt_pl, tt_ia, tt_st, tt_ir, tt_zr, tt_lr, tt_vr, tt_cv, tt_cs, tt_max, tt_min, tt_rem, tt_xor, tt_len, tt_cp, tt_thr, tt_xv, tt_xs, k_sv, k_cl, k_kz, List.getElem?_cons_zero, List.getElem?_cons_succ, List.drop_succ_cons, List.drop_zero, List.take_succ_cons, List.take_zero, List.reverse_cons, List.reverse_nil, List.nil_append, List.cons_append, List.length_cons, List.length_nil, Option.toList_some, Option.toList_none, Nat.reduceAdd, Nat.reduceLeDiff, true_and, and_true, sp_I, sp_II, sp_III, sp_J, sp_JI, sp_JJ, sp_R2, sp_R5I, sp_V, kc_43, kc_1, kc_42, kc_L, z_10, z_20, z_30, z_00, bI_t, bI_f, if_true, if_false, Bool.false_eq_true, Bool.true_eq_false, not_true_eq_false, not_false_eq_true, false_implies, true_implies, and_self, true_and, and_true, and_false, false_and, reduceCtorEq, fr_in, fr_keep, hs, hg, Bool.not_true, Bool.not_false, kc_def, vi_1, cl_1, keM_2, k_up2]
  · have h0 := qK_1 h
    subst h0
    simp only [T_X4_setDelay_16, T_X4_setDelay_0, tt_c, tt_lc, tt_il, tt_ll, tt_al, tt_is, tt_lsv, tt_as, tt_inc, tt_add, tt_sub, tt_mul, tt_and, tt_ladd, tt_lmul, tt_i2l, tt_lcmp, tt_dupr, tt_dup2, tt_eq0, tt_lt0, tt_le0, tt_ge0, tt_gt0, tt_eq2, tt_lt2, tt_ge2, tt_gt2, tt_le2, tt_gr, tt_gi, tt_pi, tt_gl, tt_pl, tt_ia, tt_st, tt_ir, tt_zr, tt_lr, tt_vr, tt_cv, tt_cs, tt_max, tt_min, tt_rem, tt_xor, tt_len, tt_cp, tt_thr, tt_xv, tt_xs, k_sv, k_cl, k_kz, List.getElem?_cons_zero, List.getElem?_cons_succ, List.drop_succ_cons, List.drop_zero, List.take_succ_cons, List.take_zero, List.reverse_cons, List.reverse_nil, List.nil_append, List.cons_append, List.length_cons, List.length_nil, Option.toList_some, Option.toList_none, Nat.reduceAdd, Nat.reduceLeDiff, true_and, and_true, sp_I, sp_II, sp_III, sp_J, sp_JI, sp_JJ, sp_R2, sp_R5I, sp_V, kc_43, kc_1, kc_42, kc_L, z_10, z_20, z_30, z_00, bI_t, bI_f, if_true, if_false, Bool.false_eq_true, Bool.true_eq_false, not_true_eq_false, not_false_eq_true, false_implies, true_implies, and_self, true_and, and_true, and_false, false_and, reduceCtorEq, fr_in, hs, Bool.not_true, Bool.not_false, kc_def]
